import java.io.IOException;
import java.lang.reflect.Method;
import java.lang.reflect.Modifier;
import java.net.URL;
import java.net.URLClassLoader;
import java.nio.file.Files;
import java.nio.file.Path;
import java.util.ArrayList;
import java.util.List;
import java.util.Set;
import java.util.TreeSet;
import java.util.function.Consumer;
import java.util.function.LongConsumer;
import java.util.regex.Matcher;
import java.util.regex.Pattern;
import javax.tools.ToolProvider;

/** The calls in README.md, compiled as they stand there and run; run from the project's folder. */
final class ReadmeTest {
    private static final Due due = new Due("ReadmeTest");
    /** A call at a line's start: the call, its name, its answer (a number, a constant, LOST and a constant). */
    private static final Pattern CALL =
            Pattern.compile("(x\\.(\\w+)\\(.*\\)); +// (-?\\d+|[A-Z]+|LOST \\+ [A-Z]+)(: .*)?");

    private static final List<String> calls = new ArrayList<>();
    private static final List<String> answers = new ArrayList<>();
    private static final Set<String> names = new TreeSet<>();

    public static void main(String[] args) throws Exception {
        String body = body(Files.readAllLines(Path.of("README.md")));
        List<Long> got = new ArrayList<>();
        run(body, got::add);
        due.is("calls that answered", got.size(), calls.size());
        for (int i = 0; i < Math.min(got.size(), calls.size()); i++) {
            due.is(calls.get(i), got.get(i), numberOf(answers.get(i)));
        }
        for (Method method : KnitChronicle.class.getDeclaredMethods()) {
            if (Modifier.isPublic(method.getModifiers())) {
                due.holds("README.md tells of " + method.getName(), names.contains(method.getName()));
            }
        }
        due.end();
    }

    /** The page's Java, each call at a line's start with its answer handed on. */
    private static String body(List<String> page) {
        StringBuilder body = new StringBuilder();
        boolean inJava = false;
        for (String line : page) {
            if (line.startsWith("```")) {
                inJava = line.equals("```java");
            } else if (inJava) {
                body.append(handedOn(line)).append('\n');
            }
        }
        return body.toString();
    }

    private static String handedOn(String line) {
        Matcher m = CALL.matcher(line);
        if (m.matches()) {
            calls.add(m.group(1));
            names.add(m.group(2));
            answers.add(m.group(3));
            return "answers.accept(" + m.group(1) + ");";
        }
        due.holds("a call with its answer: " + line, !line.startsWith("x."));
        Matcher within = Pattern.compile("x\\.(\\w+)\\(").matcher(line);
        while (within.find()) {
            names.add(within.group(1));
        }
        return line;
    }

    private static void run(String body, LongConsumer answers) throws IOException, ReflectiveOperationException {
        Path dir = Files.createTempDirectory("readme");
        Path file = dir.resolve("Page.java");
        Path compiled = dir.resolve("Page.class");
        try {
            Files.writeString(file, "import java.util.function.*;\n"
                    + "public class Page implements Consumer<LongConsumer> {\n"
                    + "public void accept(LongConsumer answers) {\n" + body + "}\n}\n");
            int refused = ToolProvider.getSystemJavaCompiler().run(null, null, null, "-encoding", "UTF-8",
                    "-cp", System.getProperty("java.class.path"), "-d", dir.toString(), file.toString());
            due.is("README.md compiles", refused, 0);
            if (refused == 0) {
                runPage(dir, answers);
            }
        } finally {
            Files.deleteIfExists(compiled);
            Files.deleteIfExists(file);
            Files.deleteIfExists(dir);
        }
    }

    @SuppressWarnings("unchecked")
    private static void runPage(Path dir, LongConsumer answers) throws IOException, ReflectiveOperationException {
        try (URLClassLoader loader = new URLClassLoader(new URL[] {dir.toUri().toURL()})) {
            Object page = loader.loadClass("Page").getDeclaredConstructor().newInstance();
            ((Consumer<LongConsumer>) page).accept(answers);
        }
    }

    private static long numberOf(String answer) throws ReflectiveOperationException {
        long sum = 0;
        for (String part : answer.split(" \\+ ")) {
            boolean written = part.matches("-?\\d+");
            sum += written ? Long.parseLong(part) : ((Number) KnitChronicle.class.getField(part).get(null)).longValue();
        }
        return sum;
    }
}
