import java.lang.reflect.Method;
import java.lang.reflect.Modifier;
import java.nio.file.Files;
import java.nio.file.Path;
import java.util.Set;
import java.util.TreeSet;
import java.util.regex.Matcher;
import java.util.regex.Pattern;

/** The calls that README.md shows, one after the other on a new object, answer what it says that they answer. */
public final class ReadmeTest {
    private static final Pattern CALL = Pattern.compile("store\\.(\\w+)\\((.*)\\);\\s*// (true|false|-?\\d+)\\b.*");
    private static final PackedColumns STORE = new PackedColumns();
    private static final Set<String> CALLED = new TreeSet<>();
    private static int wrong = 0;

    public static void main(String[] args) throws Exception {
        boolean shown = false;
        for (String line : Files.readAllLines(readme())) {
            if (line.startsWith("```")) {
                shown = line.equals("```java");
            } else if (shown && line.startsWith("store.")) {
                compare(line);
            }
        }
        for (Method m : PackedColumns.class.getDeclaredMethods()) {
            if (Modifier.isPublic(m.getModifiers()) && !CALLED.contains(m.getName())) {
                tell(m.getName() + "() is not shown");
            }
        }
        System.out.println(wrong == 0 ? "README.md shows all calls as they answer" : wrong + " lines are wrong");
        System.exit(wrong == 0 ? 0 : 1);
    }

    /** The source stands three directories below the project's own. */
    private static Path readme() {
        String source = System.getProperty("packedcolumns.source", "src/main/java/PackedColumns.java");
        return Path.of(source).toAbsolutePath().getParent().resolve("../../../README.md");
    }

    private static void tell(String text) {
        wrong++;
        System.out.println(text);
    }

    private static void compare(String line) throws Exception {
        Matcher call = CALL.matcher(line);
        if (!call.matches()) {
            tell("not a call with its answer: " + line);
            return;
        }
        String answer = String.valueOf(answerOf(call.group(1), call.group(2)));
        if (!answer.equals(call.group(3))) {
            tell(call.group(1) + "(" + call.group(2) + ") answers " + answer + ": " + line);
        }
        CALLED.add(call.group(1));
    }

    private static Object answerOf(String name, String numbers) throws Exception {
        String[] texts = numbers.isEmpty() ? new String[0] : numbers.split(", ");
        for (Method m : PackedColumns.class.getDeclaredMethods()) {
            if (Modifier.isPublic(m.getModifiers()) && m.getName().equals(name)
                    && m.getParameterCount() == texts.length) {
                Object[] given = new Object[texts.length];
                for (int i = 0; i < texts.length; i++) {
                    given[i] = numberOf(texts[i], m.getParameterTypes()[i]);
                }
                return m.invoke(STORE, given);
            }
        }
        return "nothing, as there is no such call";
    }

    /** A long is written as such: what README.md shows would not compile otherwise, or widen without being seen. */
    private static Object numberOf(String text, Class<?> type) {
        if (type == long.class) {
            return Long.parseLong(text.endsWith("L") ? text.substring(0, text.length() - 1) : "not a long: " + text);
        }
        return Integer.parseInt(text);
    }
}
