import java.io.IOException;
import java.lang.reflect.Array;
import java.lang.reflect.Field;
import java.lang.reflect.Modifier;
import java.nio.file.DirectoryStream;
import java.nio.file.Files;
import java.nio.file.Path;
import java.util.ArrayDeque;
import java.util.Collections;
import java.util.Deque;
import java.util.HashMap;
import java.util.HashSet;
import java.util.IdentityHashMap;
import java.util.Map;
import java.util.Set;
import java.util.regex.Matcher;
import java.util.regex.Pattern;

/** What of ../shared/LANGUAGE.md can be seen in the source's text, and the room an object takes. */
public final class LanguageTest {
    private static final Pattern METHOD = Pattern.compile(
            "(?m)^ +(public |private )(static )?(?:final )?([\\w\\[\\]]+ )?(\\w+)\\(([^)]*)\\) \\{");
    private static final Pattern CALL = Pattern.compile("(?<!new )\\b(\\w+)\\(");
    private static final int MOST_DEEP = 8;
    private static final int NO_CALL = -1;
    private static int wrong = 0;

    private static void must(boolean holds, String rule) {
        if (!holds) {
            wrong++;
            System.out.println("broken: " + rule);
        }
    }

    private static String withoutComments(String text) {
        return text.replaceAll("(?s)/\\*.*?\\*/", "").replaceAll("//[^\n]*", "");
    }

    private static void noneOf(String text, String rule, String... patterns) {
        for (String pattern : patterns) {
            Matcher m = Pattern.compile(pattern).matcher(text);
            must(!m.find(), rule + ": " + pattern);
        }
    }

    private static String bodyFrom(String text, int open) {
        int depth = 0;
        for (int i = open; i < text.length(); i++) {
            depth += text.charAt(i) == '{' ? 1 : text.charAt(i) == '}' ? -1 : 0;
            if (depth == 0) {
                return text.substring(open, i + 1);
            }
        }
        return text.substring(open);
    }

    private static void methods(String text) {
        Set<String> open = new HashSet<>();
        Set<String> closed = new HashSet<>();
        Matcher m = METHOD.matcher(text);
        while (m.find()) {
            String name = m.group(4);
            boolean maker = m.group(3) == null || m.group(3).isBlank();
            String body = bodyFrom(text, m.end() - 1);
            must(body.lines().count() <= 60, "rule 11: " + name + " is long");
            must(m.group(5).split(",").length <= 7, "rule 11: parameters of " + name);
            must(maker || !body.contains("new "), "room: " + name + " makes an object");
            if (!maker) {
                (m.group(1).equals("public ") ? open : closed).add(name);
            }
        }
        must(open.size() == 36, "rule 1: public methods, " + open.size());
        closed.retainAll(open);
        must(closed.isEmpty(), "rule 1: private ones bear public names: " + closed);
    }

    /** How many things stand between the bracket at open and the one that closes it. */
    private static int handedIn(String text, int open) {
        int depth = 0;
        int found = 0;
        boolean any = false;
        for (int i = open; i < text.length(); i++) {
            char c = text.charAt(i);
            depth += c == '(' ? 1 : c == ')' ? -1 : 0;
            if (depth == 0) {
                return any ? found + 1 : 0;
            }
            any |= i > open && !Character.isWhitespace(c);
            found += depth == 1 && c == ',' ? 1 : 0;
        }
        return NO_CALL;
    }

    /** Which methods each method calls; a method is told by its name and how much it is handed. */
    private static Map<String, Set<String>> callsOf(String text) {
        Map<String, String> bodies = new HashMap<>();
        Matcher m = METHOD.matcher(text);
        while (m.find()) {
            boolean maker = m.group(3) == null || m.group(3).isBlank();
            String name = m.group(4) + "/" + handedIn(text, m.start(5) - 1);
            must(maker || !bodies.containsKey(name), "two methods are told as " + name);
            bodies.put(name, bodyFrom(text, m.end() - 1));
        }
        Map<String, Set<String>> calls = new HashMap<>();
        for (Map.Entry<String, String> one : bodies.entrySet()) {
            Set<String> called = new HashSet<>();
            Matcher call = CALL.matcher(one.getValue());
            while (call.find()) {
                called.add(call.group(1) + "/" + handedIn(one.getValue(), call.end() - 1));
            }
            called.retainAll(bodies.keySet());
            calls.put(one.getKey(), called);
        }
        return calls;
    }

    /** The calls that stand open at once from a method on; more than MOST_DEEP where it comes back. */
    private static int deep(Map<String, Set<String>> calls, String method, int above) {
        int most = above;
        for (String next : calls.get(method)) {
            if (above <= MOST_DEEP) {
                most = Math.max(most, deep(calls, next, above + 1));
            }
        }
        return most;
    }

    private static void depth(String text) {
        Map<String, Set<String>> calls = callsOf(text);
        int most = 0;
        for (String method : calls.keySet()) {
            int own = deep(calls, method, 1);
            must(own <= MOST_DEEP, "rules 8, 11: calls go deep, or come back, from " + method);
            most = Math.max(most, own);
        }
        System.out.println(calls.size() + " methods, calls " + most + " deep");
    }

    private static void text(String whole) {
        must(whole.chars().allMatch(c -> c < 127), "signs of 1 to 127");
        String text = withoutComments(whole);
        noneOf(text, "rule 6", "\\b(throws?|try|catch|finally|synchronized|assert)\\b",
                "\\b(equals|hashCode|toString)\\b");
        noneOf(text, "rule 2", "->", "::", "\\bclass \\w+ extends\\b", "\\bnew \\w+\\([^)]*\\) \\{");
        noneOf(text, "rule 4", "Exact\\b", "\\bMath\\.(?!max\\(|min\\(|abs\\()", "\\b(Integer|Long)\\b", "\\bimport (?!java\\.util\\.Arrays;)", "\\bSystem\\.(?!arraycopy)",
                "MIN_VALUE|MAX_VALUE", "\\bArrays\\.(?!fill|copyOf)");
        noneOf(text, "rule 5", "static \\{", "(?m)^ *(private|public)? ?static (?!final)[\\w\\[\\]]+ \\w+( =|;)");
        noneOf(text, "rule 3", "\\bObject\\b", "\\bvar\\b", "[\"']");
        noneOf(text, "rule 6", "\\([A-Z]\\w*\\) ?\\w", "\\binstanceof\\b");
        noneOf(text, "rule 9", "\\bwhile\\b", "\\bdo\\b", "for \\([^;:]*;\\s*;");
        noneOf(text, "rule 13", "\\b(Thread|Runtime|Process|Random|Date)\\b", "\\bjava\\.(?!util\\.Arrays;)");
        Matcher kinds = Pattern.compile("\\bclass (\\w+)").matcher(text);
        int found = 0;
        while (kinds.find()) {
            found++;
        }
        must(found <= 12, "rule 11: classes, " + found);
        methods(text);
        depth(text);
    }

    /** Numbers, boolean, own classes, and rows of these of one dimension: what the class needs of rule 3. */
    private static boolean isAllowed(Class<?> type) {
        Class<?> one = type.isArray() ? type.getComponentType() : type;
        return one.isPrimitive() || one.getEnclosingClass() == StepMeters.class;
    }

    /** Local and anonymous classes get files of their own, but are no classes inside. */
    private static void files() throws IOException {
        Set<String> inside = new HashSet<>();
        for (Class<?> kind : StepMeters.class.getDeclaredClasses()) {
            inside.add(kind.getName() + ".class");
            must(kind.getDeclaredClasses().length == 0, "a class inside " + kind);
        }
        Path place = Path.of(StepMeters.class.getResource("StepMeters.class").getPath()).getParent();
        try (DirectoryStream<Path> all = Files.newDirectoryStream(place, "StepMeters$*.class")) {
            for (Path file : all) {
                must(inside.remove(file.getFileName().toString()), "rule 2: " + file.getFileName());
            }
        }
        must(inside.isEmpty(), "no file of " + inside);
    }

    private static void fields(Class<?> kind) {
        int own = 0;
        for (Field f : kind.getDeclaredFields()) {
            own += Modifier.isStatic(f.getModifiers()) ? 0 : 1;
            must(!Modifier.isStatic(f.getModifiers()) || Modifier.isFinal(f.getModifiers()), "rule 5: " + f);
            must(!Modifier.isStatic(f.getModifiers()) || f.getType() == int.class, "rule 5: " + f);
            must(isAllowed(f.getType()), "rule 3: " + f);
        }
        must(own <= 20, "rule 11: fields of " + kind);
        must(kind == StepMeters.class || Modifier.isStatic(kind.getModifiers()), "rule 2: " + kind);
        must(kind.getSuperclass() == Object.class, "rule 2: " + kind + " stands on another class");
        for (Class<?> inside : kind.getDeclaredClasses()) {
            fields(inside);
        }
    }

    /** Objects and arrays reached from one bench, and their fields and elements. */
    private static int[] room(Object bench) throws IllegalAccessException {
        Set<Object> met = Collections.newSetFromMap(new IdentityHashMap<>());
        Deque<Object> open = new ArrayDeque<>();
        open.add(bench);
        int elements = 0;
        while (!open.isEmpty()) {
            Object o = open.remove();
            if (!met.add(o)) {
                continue;
            }
            if (o.getClass().isArray()) {
                elements += Array.getLength(o);
                for (int i = 0; o instanceof Object[] row && i < row.length; i++) {
                    open.add(row[i]);
                }
                continue;
            }
            for (Field f : o.getClass().getDeclaredFields()) {
                if (!Modifier.isStatic(f.getModifiers())) {
                    elements++;
                    f.setAccessible(true);
                    if (!f.getType().isPrimitive() && f.get(o) != null) {
                        open.add(f.get(o));
                    }
                }
            }
        }
        return new int[] {met.size(), elements};
    }

    public static void main(String[] args) throws IOException, IllegalAccessException {
        String file = System.getProperty("source", "src/main/java/StepMeters.java");
        text(Files.readString(Path.of(file)));
        fields(StepMeters.class);
        files();
        int[] room = room(new StepMeters());
        System.out.println("one bench: " + room[0] + " objects and arrays, " + room[1] + " fields and elements");
        must(room[0] <= 400 && room[1] <= 15_000, "room of one bench");
        if (wrong != 0) {
            System.exit(1);
        }
        System.out.println("no rule seen broken");
    }
}
