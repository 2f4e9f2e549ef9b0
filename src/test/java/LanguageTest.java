import java.io.IOException;
import java.nio.file.Files;
import java.nio.file.Path;
import java.util.List;
import java.util.regex.Matcher;
import java.util.regex.Pattern;

/** What of LANGUAGE.md can be seen in the text of the class; run from the project's folder. */
final class LanguageTest {
    private static final Due due = new Due("LanguageTest");

    public static void main(String[] args) throws IOException {
        List<String> lines = Files.readAllLines(Path.of("src/main/java/KnitChronicle.java"));
        StringBuilder code = new StringBuilder();
        boolean inComment = false;
        for (String line : lines) {
            due.holds("signs 1 to 127: " + line, line.chars().allMatch(c -> c < 127));
            inComment |= line.trim().startsWith("/**");
            if (!inComment) {
                code.append(line.replaceAll("//.*", "")).append('\n');
            }
            inComment &= !line.contains("*/");
        }
        lacks(code, "\\b(import|package|throw|try|catch|finally|synchronized|assert|instanceof|protected|interface|record|enum)\\b");
        lacks(code, "->|::|Exact|\"|\\bstatic \\{|\\.class\\b|\\bthis\\b|\\bnull\\b");
        lacks(code, "\\b(Math\\.(?!max|min)|Integer\\.(?!bitCount)|Long\\.|System|Arrays|Thread|Object|String|List|ArrayList)\\b");
        lacks(code, "\\b(double|float)\\b|\\([a-z]+\\) [a-z(]");
        indices(code);
        divisors(code);
        objects(code);
        lengths(code);
        due.end();
    }

    private static void lacks(CharSequence code, String pattern) {
        Matcher m = Pattern.compile(pattern).matcher(code);
        due.holds("there is no " + pattern, !m.find());
    }

    /** Indices stand in at and put alone, which look at them first. */
    private static void indices(CharSequence code) {
        Matcher m = Pattern.compile("\\w\\[[^\\]]").matcher(code.toString().replaceAll("new int\\[[^\\]]*\\]", ""));
        int found = 0;
        while (m.find()) {
            found++;
        }
        due.is("places where a row is indexed", found, 2);
    }

    /** A divisor is a number, a constant, or one of those that are looked at just before. */
    private static void divisors(CharSequence code) {
        Matcher m = Pattern.compile("[/%]=? *([A-Za-z]\\w*)").matcher(code);
        while (m.find()) {
            String divisor = m.group(1);
            due.holds("divisor " + divisor, divisor.matches("KNITTERS|STITCHES|COLOURS|p|divisor"));
        }
    }

    /** Objects and rows are made by field initialisers alone. */
    private static void objects(CharSequence code) {
        for (String line : code.toString().split("\n")) {
            if (line.contains("new ") || line.contains("= {")) {
                due.holds("made once: " + line, line.matches(" *(private )?final \\w+(\\[\\])? \\w+ = (new |\\{).*;"));
            }
        }
    }

    private static void lengths(CharSequence code) {
        Pattern head = Pattern.compile("( {4}| {8})(?!if|for|while|switch|else|\\})[a-z].*\\((.*)\\) \\{");
        String indent = "";
        int length = -1;
        int methods = 0;
        for (String text : code.toString().split("\n")) {
            Matcher m = head.matcher(text);
            if (m.matches()) {
                methods++;
                length = 0;
                indent = m.group(1);
                due.holds("few parameters: " + text, m.group(2).split(",").length <= 7);
            }
            length += length >= 0 ? 1 : 0;
            if (length >= 0 && text.equals(indent + "}")) {
                due.holds("a short method ends " + text, length <= 60);
                length = -1;
            }
        }
        due.holds("methods are found: " + methods, methods > 80);
    }
}
