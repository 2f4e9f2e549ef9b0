import java.lang.reflect.Constructor;
import java.lang.reflect.Field;
import java.lang.reflect.Method;
import java.lang.reflect.Modifier;
import java.util.Set;
import java.util.TreeSet;

/** The face as the document tells it: each constant, the constructor and each method, and nothing else to be seen. */
final class FaceTest {
    private static final Due due = new Due("FaceTest");

    public static void main(String[] args) {
        int modifiers = KnitChronicle.class.getModifiers();
        due.holds("public", Modifier.isPublic(modifiers));
        due.holds("final", Modifier.isFinal(modifiers));
        constants();
        constructor();
        methods();
        due.end();
    }

    private static void constants() {
        due.is("NONE", KnitChronicle.NONE, -6);
        due.is("UNKNOWN", KnitChronicle.UNKNOWN, -1);
        due.is("OUTSIDE", KnitChronicle.OUTSIDE, -2);
        due.is("STATE", KnitChronicle.STATE, -3);
        due.is("FULL", KnitChronicle.FULL, -4);
        due.is("NO", KnitChronicle.NO, -5);
        due.is("LOST", KnitChronicle.LOST, -1000000000000000000L);
        int seen = 0;
        for (Field f : KnitChronicle.class.getDeclaredFields()) {
            if (!Modifier.isPrivate(f.getModifiers())) {
                seen++;
                due.holds(f + " is a public constant", Modifier.isPublic(f.getModifiers())
                        && Modifier.isStatic(f.getModifiers()) && Modifier.isFinal(f.getModifiers()));
                due.holds(f + " has its type", f.getType() == (f.getName().equals("LOST") ? long.class : int.class));
            }
        }
        due.is("constants to be seen", seen, 7);
    }

    private static void constructor() {
        Constructor<?>[] all = KnitChronicle.class.getDeclaredConstructors();
        due.is("constructors", all.length, 1);
        due.holds("a public one without parameters",
                Modifier.isPublic(all[0].getModifiers()) && all[0].getParameterCount() == 0);
    }

    private static void methods() {
        Set<String> told = new TreeSet<>();
        String face = "int stitch(int,int,int) int cast() int knitter(int,int) int say(int) int wipe() int fault() "
                + "int judge(int) int done() int behind(int) int of(int,int) int pull(int) int pulls(int,int,int) "
                + "int pattern() int hole(int) int rip(int) int hold(int,int) int hands() int who(int) "
                + "int seen(int,boolean) int forget() int tights() int next(int) long moths(int,int,int) "
                + "int year(int,int,int) int image(int) int restore(int) int told(int)";
        for (String method : face.split(" (?=int |long )")) {
            told.add(method);
        }
        due.is("methods told", told.size(), 27);
        Set<String> found = new TreeSet<>();
        Set<String> names = new TreeSet<>();
        for (Method m : KnitChronicle.class.getDeclaredMethods()) {
            if (!Modifier.isPrivate(m.getModifiers())) {
                found.add(asTold(m));
                names.add(m.getName());
                due.holds(m + " is public, not static", Modifier.isPublic(m.getModifiers()) && !Modifier.isStatic(m.getModifiers()));
            }
        }
        due.holds("methods to be seen are " + found, found.equals(told));
        for (Class<?> c : KnitChronicle.class.getDeclaredClasses()) {
            due.holds(c + " is static", Modifier.isStatic(c.getModifiers()));
            due.holds(c + " is hidden", !Modifier.isPublic(c.getModifiers()) && !Modifier.isProtected(c.getModifiers()));
            hidden(c, names);
        }
        hidden(KnitChronicle.class, names);
    }

    private static void hidden(Class<?> c, Set<String> names) {
        for (Method m : c.getDeclaredMethods()) {
            boolean face = c == KnitChronicle.class && Modifier.isPublic(m.getModifiers());
            due.holds(m + " bears no public name", face || !names.contains(m.getName()));
        }
        for (Field f : c.getDeclaredFields()) {
            due.holds(f + " is no static state", !Modifier.isStatic(f.getModifiers()) || Modifier.isFinal(f.getModifiers()));
        }
    }

    private static String asTold(Method m) {
        StringBuilder s = new StringBuilder(m.getReturnType() + " " + m.getName() + "(");
        for (Class<?> p : m.getParameterTypes()) {
            s.append(s.charAt(s.length() - 1) == '(' ? "" : ",").append(p);
        }
        return s.append(")").toString();
    }
}
