import java.io.PrintWriter;
import java.io.StringWriter;
import java.lang.management.ManagementFactory;
import java.lang.reflect.Constructor;
import java.lang.reflect.Field;
import java.lang.reflect.Method;
import java.lang.reflect.Modifier;
import java.nio.file.Files;
import java.nio.file.Path;
import java.util.ArrayList;
import java.util.Arrays;
import java.util.HashMap;
import java.util.HashSet;
import java.util.List;
import java.util.Map;
import java.util.Set;
import java.util.TreeSet;
import java.util.regex.Matcher;
import java.util.regex.Pattern;
import java.util.spi.ToolProvider;

/** The rules of LANGUAGE.md that can be looked at from outside: the face, the words, the sizes, the room. */
public final class LanguageTest {
    private static final String[] FACE = {
        "int feed(int,int,int,int,int)", "boolean end(int)", "boolean way(int,int,int)", "int value(int,long)",
        "int missing(int)", "int sow(int,int,int,long,long,int,long)", "int set(int,int,long)", "int pack(int)",
        "int clear(int)", "int count(int,int)", "int has(int,int)", "long get(int,int)", "int piece(int,int,int)",
        "int at(int,int,int)", "int code(int,int,int)", "int front(int,int)", "int pair(int,int)",
        "int among(int,long,long)", "long sum(int,long,long)", "int looked()", "int take(int,int)", "int load(int)",
        "int fault(int)"};
    private static final int MOST_LINES = 60;
    private static final int MOST_CALLS_DEEP = 8;
    private static int wrong = 0;

    public static void main(String[] args) throws Exception {
        Path source = Path.of(System.getProperty("packedcolumns.source", "src/main/java/PackedColumns.java"));
        List<Class<?>> classes = new ArrayList<>(List.of(PackedColumns.class));
        classes.addAll(Arrays.asList(PackedColumns.class.getDeclaredClasses()));
        face();
        members(classes);
        words(Files.readString(source));
        lines(Files.readAllLines(source));
        callsDeep(classes);
        room();
        System.out.println(wrong == 0 ? "the language's rules are kept" : wrong + " rules are broken");
        System.exit(wrong == 0 ? 0 : 1);
    }

    private static void rule(int number, boolean kept, String what) {
        if (!kept) {
            wrong++;
            System.out.println("rule " + number + ": " + what);
        }
    }

    private static String signature(Method m) {
        List<String> types = new ArrayList<>();
        for (Class<?> type : m.getParameterTypes()) {
            types.add(type.getName());
        }
        return m.getReturnType().getName() + " " + m.getName() + "(" + String.join(",", types) + ")";
    }

    private static void face() throws Exception {
        Class<?> c = PackedColumns.class;
        rule(1, Modifier.isFinal(c.getModifiers()) && Modifier.isPublic(c.getModifiers()), "the class is public, final");
        Set<String> due = new TreeSet<>(Arrays.asList(FACE));
        Set<String> found = new TreeSet<>();
        for (Method m : c.getDeclaredMethods()) {
            if (Modifier.isPublic(m.getModifiers())) {
                found.add(signature(m));
                rule(1, !Modifier.isStatic(m.getModifiers()), m + " is static");
            } else {
                rule(1, Modifier.isPrivate(m.getModifiers()), m + " is not private");
            }
        }
        rule(1, due.equals(found), "the methods are " + found);
        Constructor<?>[] makers = c.getDeclaredConstructors();
        rule(1, makers.length == 1 && Modifier.isPublic(makers[0].getModifiers())
                && makers[0].getParameterCount() == 0, "one public constructor");
        Field none = c.getField("NONE");
        rule(1, none.getInt(null) == -1 && c.getFields().length == 1, "NONE alone");
    }

    private static void members(List<Class<?>> classes) {
        Set<String> open = new HashSet<>();
        for (Method m : PackedColumns.class.getMethods()) {
            open.add(m.getName());
        }
        rule(11, classes.size() <= 12, classes.size() + " classes");
        for (Class<?> c : classes) {
            boolean outer = c == PackedColumns.class;
            rule(2, outer || Modifier.isStatic(c.getModifiers()) && Modifier.isPrivate(c.getModifiers()), c + "");
            rule(2, c == PackedColumns.class || c.getDeclaredClasses().length == 0, c + " has classes inside");
            int fields = 0;
            for (Field f : c.getDeclaredFields()) {
                boolean constant = Modifier.isStatic(f.getModifiers());
                fields += constant ? 0 : 1;
                rule(5, !constant || Modifier.isFinal(f.getModifiers()) && f.getType().isPrimitive(), f + "");
                rule(1, Modifier.isPrivate(f.getModifiers()) || f.getName().equals("NONE"), f + " is not private");
            }
            rule(11, fields <= 20, c + " has " + fields + " fields");
            for (Method m : c.getDeclaredMethods()) {
                rule(11, m.getParameterCount() <= 7, m + " has too many parameters");
                rule(1, outer && Modifier.isPublic(m.getModifiers()) || !open.contains(m.getName()),
                        m + " bears a name of the face");
                rule(2, !m.isSynthetic(), m + " is synthetic");
            }
        }
    }

    private static void words(String source) {
        String code = source.replaceAll("(?s)/\\*.*?\\*/", " ").replaceAll("//[^\n]*", " ");
        String[] never = {"throw", "throws", "try", "catch", "finally", "synchronized", "assert", "import", "package",
            "protected", "double", "float", "Object", "Exception", "Random", "Thread", "volatile", "transient",
            "native", "enum", "record", "equals", "hashCode", "toString", "goto", "var"};
        for (String word : never) {
            rule(6, !Pattern.compile("\\b" + word + "\\b").matcher(code).find(), "the word " + word);
        }
        rule(2, !code.contains("->") && !code.contains("::"), "a lambda or a method reference");
        rule(4, !Pattern.compile("\\w+Exact\\b").matcher(code).find(), "an Exact function");
        rule(3, !code.contains("[][]") && !code.contains("\""), "an array of arrays, or a text");
        Set<String> library = new TreeSet<>();
        Matcher uses = Pattern.compile("\\b(Math|Long|Integer|System|Arrays|String)\\.(\\w+)").matcher(code);
        while (uses.find()) {
            library.add(uses.group());
        }
        library.removeAll(Set.of("Math.min", "Math.max", "Math.abs", "Long.numberOfLeadingZeros", "Long.MIN_VALUE",
                "Integer.MAX_VALUE", "System.arraycopy"));
        rule(4, library.isEmpty(), "the library's " + library);
        rule(9, !Pattern.compile("while \\(true\\)|for \\(;").matcher(code).find(), "a loop without an end");
    }

    private static void lines(List<String> lines) {
        int begin = -1;
        for (int i = 0; i < lines.size(); i++) {
            String line = lines.get(i);
            rule(11, line.length() <= 120, "line " + (i + 1) + " is long");
            if (line.matches(" {4}( {4})?\\w.*\\) \\{")) {
                begin = i;
            } else if (line.matches(" {4}( {4})?\\}") && begin >= 0) {
                rule(11, i - begin < MOST_LINES, "a method of " + (i - begin + 1) + " lines ends in line " + (i + 1));
                begin = -1;
            }
        }
    }

    /** The longest chain of calls; a method that calls itself counts once. */
    private static void callsDeep(List<Class<?>> classes) {
        Map<String, Set<String>> calls = new HashMap<>();
        Pattern invoked = Pattern.compile("invoke\\w+ .*Method (?:(PackedColumns[\\w$]*)\\.)?(\\w+|\"<init>\"):");
        Pattern begun = Pattern.compile("^  \\S.*?([\\w$]+)\\([^()]*\\);$");
        for (Class<?> c : classes) {
            StringWriter out = new StringWriter();
            PrintWriter to = new PrintWriter(out);
            ToolProvider javap = ToolProvider.findFirst("javap").orElse(null);
            if (javap == null) {
                System.out.println("there is no javap here: how deep calls go is not looked at");
                return;
            }
            javap.run(to, to, "-c", "-p", "-cp", System.getProperty("java.class.path"), c.getName());
            String method = "";
            for (String line : out.toString().split("\n")) {
                Matcher head = begun.matcher(line);
                Matcher call = invoked.matcher(line);
                if (head.find()) {
                    method = c.getName() + "." + head.group(1);
                    calls.putIfAbsent(method, new HashSet<>());
                } else if (call.find() && !line.contains("java/")) {
                    calls.get(method).add((call.group(1) == null ? c.getName() : call.group(1)) + "." + call.group(2));
                }
            }
        }
        rule(11, calls.size() > 100, "javap told of " + calls.size() + " methods alone");
        for (String method : FACE) {
            String name = "PackedColumns." + method.replaceAll("\\w+ (\\w+)\\(.*", "$1");
            int deep = deepest(calls, name, new ArrayList<>());
            rule(11, deep <= MOST_CALLS_DEEP, name + " goes " + deep + " calls deep");
        }
    }

    private static int deepest(Map<String, Set<String>> calls, String method, List<String> around) {
        int deep = 0;
        for (String inner : calls.getOrDefault(method, Set.of())) {
            if (inner.equals(method)) {
                continue;
            }
            if (around.contains(inner)) {
                rule(8, false, inner + " is called again through others");
                continue;
            }
            List<String> more = new ArrayList<>(around);
            more.add(method);
            deep = Math.max(deep, deepest(calls, inner, more));
        }
        return deep + 1;
    }

    /** All rows are made with the object, so that no run can fill the room. */
    private static void room() {
        com.sun.management.ThreadMXBean bean = (com.sun.management.ThreadMXBean) ManagementFactory.getThreadMXBean();
        long id = Thread.currentThread().getId();
        PackedColumns first = new PackedColumns();
        useAll(first);
        long before = bean.getThreadAllocatedBytes(id);
        long none = bean.getThreadAllocatedBytes(id) - before;
        before = bean.getThreadAllocatedBytes(id);
        PackedColumns x = new PackedColumns();
        long made = bean.getThreadAllocatedBytes(id) - before - none;
        rule(12, made < 60000, "a new object takes " + made + " bytes");
        before = bean.getThreadAllocatedBytes(id);
        useAll(x);
        long used = bean.getThreadAllocatedBytes(id) - before - none;
        rule(12, used < 1000, "calls made " + used + " bytes");
    }

    private static void useAll(PackedColumns x) {
        for (int c = -1; c < 5; c++) {
            x.sow(c, 64, c, 5L, 3L, 1000, 77L);
            x.value(c, 4L);
            x.missing(c);
            for (int i = 0; i < 8; i++) {
                x.set(c, i, i);
            }
            x.way(c, 1, 100);
            x.pack(c);
            x.value(c, 9L);
            x.front(c, 0);
            x.pair(0, 0);
            x.among(c, 0L, 100L);
            x.sum(c, 0L, 100L);
            x.looked();
            x.take(c, 0);
            x.end(40);
            x.load(c);
            x.fault(0);
            x.take(c, 0);
            x.load(c);
            x.feed(1, 2, 3, 4, 5);
            x.load(c);
            x.get(c, 3);
            x.has(c, 3);
            x.count(c, 2);
            x.piece(c, 0, 2);
            x.at(c, 0, 0);
            x.code(c, 0, 0);
            x.clear(c);
        }
    }
}
