import java.nio.file.Files;
import java.nio.file.Path;
import java.util.ArrayList;
import java.util.HashMap;
import java.util.HashSet;
import java.util.List;
import java.util.Map;
import java.util.Set;
import java.util.regex.Matcher;
import java.util.regex.Pattern;

/** The rules of LANGUAGE.md that can be seen from the lines of the class. */
public final class LanguageTest {
    private static final Check CHECK = new Check();
    private static final Pattern METHOD =
            Pattern.compile("^ +(public|private)( static)?( final)? ([\\w\\[\\]]+ )?(\\w+)\\(([^)]*)\\) \\{$");
    private static final Pattern CALL = Pattern.compile("(?<!new )\\b(\\w+)\\(");

    private final List<String> lines;
    private final Set<String> open = new HashSet<>();
    private final Set<String> hidden = new HashSet<>();
    private final Map<String, Set<String>> calls = new HashMap<>();

    private LanguageTest(List<String> lines) {
        this.lines = lines;
    }

    public static void main(String[] args) throws Exception {
        LanguageTest test = new LanguageTest(Files.readAllLines(Path.of("src/main/java/WingHouse.java")));
        test.forbidden();
        test.classes();
        test.fields();
        test.library();
        test.methods();
        test.depth();
        CHECK.end("LanguageTest");
    }

    private void forbidden() {
        Pattern no = Pattern.compile("\\b(throw|try|catch|synchronized|assert|instanceof|interface|do)\\b|->|::|@"
                + "|while \\(true|for \\(;;|[&|^]=|\\w+Exact\\b|System\\.(?!arraycopy)|[^\\x00-\\x7f]|\" \\+|\\+ \"");
        for (int i = 0; i < lines.size(); i++) {
            String code = lines.get(i).replaceAll("//.*|^ *(/\\*\\*| \\*).*", "");
            CHECK.no("line " + (i + 1) + ": " + code, no.matcher(code).find());
            boolean imports = code.startsWith("import") && !code.equals("import java.util.Arrays;");
            CHECK.no("line " + (i + 1) + " imports", imports || code.startsWith("package"));
        }
    }

    private void classes() {
        int classes = 0;
        for (String line : lines) {
            if (line.matches("^ *(public|private).* class .*")) {
                classes++;
                CHECK.yes(line, line.equals("public final class WingHouse {")
                        || line.startsWith("    private static final class "));
            }
            // A member stands four or eight deep and begins with its visibility; statements stand deeper.
            if (line.matches("^ {4}\\w.*") && !line.startsWith("    private ")) {
                CHECK.yes(line, line.startsWith("    public ") && (line.contains("(") || line.contains("NONE")));
            }
        }
        CHECK.yes("classes: " + classes, classes <= 12);
    }

    private void fields() {
        Pattern field = Pattern.compile("^ {4,8}private (static )?(final )?([\\w\\[\\]]+) \\w+( =.*|;)$");
        int inClass = 0;
        for (String line : lines) {
            Matcher found = field.matcher(line);
            if (line.contains(" class ")) {
                inClass = 0;
            } else if (found.matches() && found.group(1) == null) {
                inClass++;
                CHECK.yes(line + " is one field too many", inClass <= 20);
            } else if (found.matches()) {
                CHECK.yes(line, found.group(2) != null && found.group(3).matches("int|long|String|int\\[\\]"));
            }
        }
    }

    private void library() {
        Set<String> may = Set.of("Math.max", "Math.min", "Math.abs", "Arrays.fill", "Integer.bitCount", "System.arraycopy");
        Pattern used = Pattern.compile("\\b(?:Math|Arrays|Integer|Long|String|System)\\.\\w+");
        for (String line : lines) {
            Matcher use = used.matcher(line.startsWith("import") ? "" : line);
            while (use.find()) {
                CHECK.yes(line, may.contains(use.group()));
            }
        }
    }

    private void methods() {
        for (int i = 0; i < lines.size(); i++) {
            Matcher method = METHOD.matcher(lines.get(i));
            if (!method.matches()) {
                continue;
            }
            String name = method.group(5);
            int depth = 0;
            int end = i;
            Set<String> called = calls.computeIfAbsent(name, x -> new HashSet<>());
            do {
                String line = lines.get(end).replaceAll("'.'|//.*", "");
                depth += line.length() - line.replace("{", "").length();
                depth -= line.length() - line.replace("}", "").length();
                Matcher call = CALL.matcher(end == i ? "" : line);
                while (call.find()) {
                    called.add(call.group(1));
                }
                // What is made with the object is counted once, what a call makes as often as it comes.
                CHECK.no("a call makes something: " + line, method.group(4) != null && line.contains("new "));
                end++;
            } while (depth > 0);
            CHECK.yes(name + " has " + (end - i) + " lines", end - i <= 60);
            CHECK.yes(name + " has too many parameters", method.group(6).split(",").length <= 7);
            (method.group(1).equals("public") ? open : hidden).add(name);
        }
        CHECK.same("methods of the face and the constructor", open.size(), 34);
        for (String name : open) {
            CHECK.no("a private " + name, hidden.contains(name));
        }
    }

    private void depth() {
        for (String name : open) {
            CHECK.yes(name + " calls more than eight deep", depthOf(name, new ArrayList<>()) <= 8);
        }
    }

    private int depthOf(String name, List<String> above) {
        if (above.contains(name)) {
            CHECK.yes(name + " calls itself by " + above, false);
            return 99;
        }
        above.add(name);
        int deepest = 0;
        for (String called : calls.getOrDefault(name, Set.of())) {
            deepest = Math.max(deepest, calls.containsKey(called) ? depthOf(called, above) : 0);
        }
        above.remove(name);
        return deepest + 1;
    }
}
