import java.io.File;
import java.io.IOException;
import java.lang.reflect.InvocationTargetException;
import java.lang.reflect.Method;
import java.nio.file.Files;
import java.nio.file.Path;
import java.util.Map;
import java.util.Set;
import java.util.TreeMap;
import java.util.TreeSet;
import java.util.regex.Matcher;
import java.util.regex.Pattern;

/** What README.md shows of the class and of its tests is so: its calls answer what it says there. */
public final class ReadmeTest {
    private static final Checks c = new Checks("ReadmeTest");
    private static final Pattern CALL =
        Pattern.compile("(?:int (\\w+) = )?x\\.(\\w+)\\(([^)]*)\\);(?:\\s*//\\s*(.*))?");
    // A comment that begins with a number alone, or with one and ':', says the answer.
    private static final Pattern ANSWER = Pattern.compile("(-?\\d+)(?::.*)?");

    private static final Map<String, Long> names = new TreeMap<>();
    private static final Set<String> called = new TreeSet<>();

    public static void main(String[] args) throws IOException, ReflectiveOperationException {
        String text = Files.readString(Path.of("README.md"));
        calls(text);
        namedCalls(text);
        testTable(text);
        c.finish();
    }

    /** The lines of all java blocks, on one object, in their order. */
    private static void calls(String text) throws ReflectiveOperationException {
        ReportBlocks x = new ReportBlocks();
        Matcher blocks = Pattern.compile("(?s)```java\n(.*?)```").matcher(text);
        int answers = 0;
        while (blocks.find()) {
            for (String line : blocks.group(1).split("\n")) {
                Matcher call = CALL.matcher(line);
                if (call.matches()) {
                    answers += call(x, line, call) ? 1 : 0;
                } else {
                    c.due(line, line.equals("ReportBlocks x = new ReportBlocks();") ? 1 : 0, 1);
                }
            }
        }
        c.due("some answers are shown", answers >= 20 ? 1 : 0, 1);
    }

    private static boolean call(ReportBlocks x, String line, Matcher call) throws ReflectiveOperationException {
        called.add(call.group(2));
        long got = invoke(x, call.group(2), call.group(3));
        if (call.group(1) != null) {
            names.put(call.group(1), got);
        }
        Matcher answer = ANSWER.matcher(call.group(4) == null ? "" : call.group(4));
        if (!answer.matches()) {
            c.due(line + " is not refused", got >= 0 || got == ReportBlocks.NONE ? 1 : 0, 1);
            return false;
        }
        c.due(line, got, Long.parseLong(answer.group(1)));
        return true;
    }

    private static long invoke(ReportBlocks x, String name, String texts)
        throws IllegalAccessException, InvocationTargetException {
        String[] each = texts.isEmpty() ? new String[0] : texts.split(", ");
        for (Method method : ReportBlocks.class.getMethods()) {
            if (method.getName().equals(name) && method.getParameterCount() == each.length) {
                Object[] values = new Object[each.length];
                for (int i = 0; i < each.length; i++) {
                    long value = valueOf(each[i]);
                    if (method.getParameterTypes()[i] == int.class) {
                        values[i] = Math.toIntExact(value);
                    } else {
                        values[i] = value;
                    }
                }
                return ((Number) method.invoke(x, values)).longValue();
            }
        }
        throw new IllegalStateException("README.md calls " + name + "(" + texts + ")");
    }

    private static long valueOf(String text) {
        return names.containsKey(text) ? names.get(text) : Long.decode(text.replaceAll("L$", ""));
    }

    /** The table of calls names every call of the class, once, and no other. */
    private static void namedCalls(String text) {
        Set<String> face = new TreeSet<>();
        for (Method method : ReportBlocks.class.getDeclaredMethods()) {
            if (java.lang.reflect.Modifier.isPublic(method.getModifiers())) {
                face.add(method.getName());
            }
        }
        Set<String> named = new TreeSet<>();
        Matcher rows = Pattern.compile("(?m)^\\| (?:tables|blocks|writing|tracks) \\|.*$").matcher(text);
        while (rows.find()) {
            Matcher name = Pattern.compile("`(\\w+)`").matcher(rows.group());
            while (name.find()) {
                c.due(name.group(1) + " is named once", named.add(name.group(1)) ? 1 : 0, 1);
            }
        }
        same("the calls that are named", named, face);
        c.due("calls shown that are none", face.containsAll(called) ? 0 : 1, 0);
    }

    /** The table of tests names those that there are. */
    private static void testTable(String text) {
        Set<String> named = new TreeSet<>();
        Matcher row = Pattern.compile("(?m)^\\| `(\\w+Test)` \\|").matcher(text);
        while (row.find()) {
            named.add(row.group(1));
        }
        Set<String> there = new TreeSet<>();
        String[] files = new File("src/test/java").list();
        for (String file : files == null ? new String[0] : files) {
            if (file.endsWith("Test.java")) {
                there.add(file.replace(".java", ""));
            }
        }
        same("the tests that are named", named, there);
    }

    private static void same(String what, Set<String> got, Set<String> want) {
        if (!got.equals(want)) {
            System.out.println(what + ": " + got + ", due are " + want);
        }
        c.due(what, got.equals(want) ? 1 : 0, 1);
    }
}
