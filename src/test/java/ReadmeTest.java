import java.lang.reflect.Method;
import java.nio.file.Files;
import java.nio.file.Path;
import java.util.List;
import java.util.regex.Matcher;
import java.util.regex.Pattern;

/** Each call that README.md shows is made, in its order, and answers what stands behind it there. */
public final class ReadmeTest {
    private static final Check CHECK = new Check();
    private static final Pattern SHOWN = Pattern.compile("house\\.(\\w+)\\((.*)\\); +// (-?\\w+)\\b.*");

    public static void main(String[] args) throws Exception {
        List<String> lines = Files.readAllLines(Path.of("README.md"));
        WingHouse house = new WingHouse();
        Twin twin = new Twin();
        int calls = 0;
        for (String line : lines) {
            Matcher shown = SHOWN.matcher(line);
            CHECK.same("a call without an answer: " + line, shown.matches() ? 1 : 0, line.startsWith("house.") ? 1 : 0);
            if (shown.matches()) {
                long due = number(shown.group(3));
                CHECK.same(line, answer(house, shown.group(1), shown.group(2)), due);
                CHECK.same("of the twin, " + line, answer(twin, shown.group(1), shown.group(2)), due);
                calls++;
            }
        }
        CHECK.yes("README.md shows calls", calls > 34);
        everyMethod(lines);
        CHECK.end("ReadmeTest");
    }

    private static long answer(Object house, String name, String given) throws Exception {
        String[] parts = given.isEmpty() ? new String[0] : given.split(", ");
        for (Method method : house.getClass().getDeclaredMethods()) {
            if (method.getName().equals(name) && method.getParameterCount() == parts.length) {
                Object[] values = new Object[parts.length];
                for (int i = 0; i < parts.length; i++) {
                    boolean truth = method.getParameterTypes()[i] == boolean.class;
                    values[i] = truth ? (Object) parts[i].equals("true") : (Object) (int) Long.decode(parts[i]).longValue();
                }
                method.setAccessible(true);
                return number(method.invoke(house, values).toString());
            }
        }
        CHECK.yes("a method " + name, false);
        return 0;
    }

    private static long number(String word) {
        return word.equals("true") ? 1 : word.equals("false") ? 0 : Long.parseLong(word);
    }

    private static void everyMethod(List<String> lines) {
        for (Method method : WingHouse.class.getDeclaredMethods()) {
            boolean open = java.lang.reflect.Modifier.isPublic(method.getModifiers());
            boolean shown = lines.stream().anyMatch(line -> line.startsWith("house." + method.getName() + "("));
            CHECK.yes("README.md shows " + method.getName(), shown || !open);
        }
    }
}
