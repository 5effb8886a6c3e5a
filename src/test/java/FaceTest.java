import java.io.IOException;
import java.lang.reflect.Constructor;
import java.lang.reflect.Field;
import java.lang.reflect.Method;
import java.lang.reflect.Modifier;
import java.nio.file.Files;
import java.nio.file.Path;
import java.util.Set;
import java.util.TreeSet;
import java.util.regex.Matcher;
import java.util.regex.Pattern;

/** The class's face, and what can be seen of LANGUAGE.md's rules from its text. */
public final class FaceTest {
    private static final String SOURCE = "src/main/java/ReportBlocks.java";
    private static final Checks c = new Checks("FaceTest");

    private static final String[] FACE = {
        "category(int)int", "item(int,int,int,int)int", "part(int,int,int,int)int",
        "tells(int,int,int)int", "table(int,int,int)int", "feed(long,int)int", "tear()int",
        "read()int", "fault()int", "records(int)int", "has(int,int,int)int", "at(int,int,int)int",
        "number(int,int,int)long", "begin(int)int", "set(int)int", "take(int)int", "write()int",
        "copy(int)int", "tape(int)int", "report(int)int", "tick(int)int", "track(int,int)int",
        "count(int)int"};

    public static void main(String[] args) throws IOException {
        constants();
        methods();
        nested();
        text();
        c.finish();
    }

    private static void same(String what, Object got, Object want) {
        if (!got.equals(want)) {
            System.out.println(what + ": " + got + ", due is " + want);
        }
        c.due(what, got.equals(want) ? 1 : 0, 1);
    }

    private static void constants() {
        c.due("BAD", ReportBlocks.BAD, -1);
        c.due("STATE", ReportBlocks.STATE, -2);
        c.due("FULL", ReportBlocks.FULL, -3);
        c.due("NONE", ReportBlocks.NONE, -9);
        Set<String> open = new TreeSet<>();
        for (Field field : ReportBlocks.class.getDeclaredFields()) {
            if (!Modifier.isPrivate(field.getModifiers())) {
                open.add(field.getName() + " " + Modifier.toString(field.getModifiers()));
            }
            if (Modifier.isStatic(field.getModifiers())) {
                same(field.getName() + " is final", Modifier.isFinal(field.getModifiers()), true);
            }
        }
        same("open fields", open, Set.of("BAD public static final", "FULL public static final",
            "NONE public static final", "STATE public static final"));
    }

    private static void methods() {
        same("the class", Modifier.toString(ReportBlocks.class.getModifiers()), "public final");
        same("constructors", ReportBlocks.class.getDeclaredConstructors().length, 1);
        for (Constructor<?> constructor : ReportBlocks.class.getDeclaredConstructors()) {
            same("constructor", constructor.toString(), "public ReportBlocks()");
        }
        Set<String> open = new TreeSet<>();
        Set<String> names = new TreeSet<>();
        Set<String> hidden = new TreeSet<>();
        for (Method method : ReportBlocks.class.getDeclaredMethods()) {
            if (Modifier.isPrivate(method.getModifiers())) {
                hidden.add(method.getName());
                continue;
            }
            StringBuilder text = new StringBuilder(method.getName()).append('(');
            for (Class<?> type : method.getParameterTypes()) {
                text.append(text.charAt(text.length() - 1) == '(' ? "" : ",").append(type);
            }
            open.add(text.append(')').append(method.getReturnType()).toString());
            names.add(method.getName());
            same(method.getName(), Modifier.toString(method.getModifiers()), "public");
        }
        same("open methods", open, new TreeSet<>(Set.of(FACE)));
        hidden.retainAll(names);
        same("private methods with a public one's name", hidden.size(), 0);
    }

    private static void nested() {
        Class<?>[] classes = ReportBlocks.class.getDeclaredClasses();
        same("at most some twelve classes", classes.length <= 11, true);
        for (Class<?> inside : classes) {
            int modifiers = inside.getModifiers();
            same(inside.getName() + " is static", Modifier.isStatic(modifiers), true);
            same(inside.getName() + " is not public",
                Modifier.isPublic(modifiers) || Modifier.isProtected(modifiers), false);
            same(inside.getName() + " has at most some twenty fields",
                inside.getDeclaredFields().length <= 20, true);
        }
    }

    private static void text() throws IOException {
        String text = Files.readString(Path.of(SOURCE));
        String code = text.replaceAll("(?s)/\\*.*?\\*/", " ").replaceAll("//[^\\n]*", " ");
        for (String word : new String[] {"throw", "throws", "try", "catch", "finally", "synchronized",
            "assert", "package", "System.out", "Exception", "->", "::", "volatile", "Object",
            "protected", "while (true)", "for (;;)", "Exact"}) {
            String pattern = Character.isLetter(word.charAt(0))
                ? "\\b" + Pattern.quote(word) : Pattern.quote(word);
            same("no " + word, Pattern.compile(pattern).matcher(code).find(), false);
        }
        Matcher imports = Pattern.compile("import ([^;]*);").matcher(code);
        while (imports.find()) {
            same("an import", imports.group(1), "java.util.Arrays");
        }
        int longest = 0;
        int begun = -1;
        String[] lines = code.split("\n");
        for (int i = 0; i < lines.length; i++) {
            if (lines[i].matches("( {4}| {8})[^ ].*\\) \\{")) {
                begun = i;
            } else if (lines[i].matches("( {4}| {8})\\}") && begun >= 0) {
                longest = Math.max(longest, i - begun + 1);
                begun = -1;
            }
        }
        same("methods of at most 60 lines", longest > 10 && longest <= 60, true);
    }
}
