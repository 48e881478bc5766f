import java.io.IOException;
import java.lang.reflect.Array;
import java.lang.reflect.Field;
import java.lang.reflect.Modifier;
import java.nio.file.Files;
import java.nio.file.Path;
import java.util.ArrayDeque;
import java.util.Collections;
import java.util.Deque;
import java.util.HashSet;
import java.util.IdentityHashMap;
import java.util.Set;
import java.util.regex.Matcher;
import java.util.regex.Pattern;

/** What of ../shared/LANGUAGE.md can be seen in the source's text, and the room an object takes. */
public final class LanguageTest {
    private static final Pattern METHOD = Pattern.compile(
            "(?m)^ +(public |private )(static )?(?:final )?([\\w\\[\\]]+ )?(\\w+)\\(([^)]*)\\) \\{");
    private static int wrong = 0;

    private static void must(boolean holds, String rule) {
        if (!holds) {
            wrong++;
            System.out.println("broken: " + rule);
        }
    }

    private static String withoutComments(String text) {
        return text.replaceAll("(?s)/\\*.*?\\*/", "").replaceAll("//[^\n]*", "");
    }

    private static void noneOf(String text, String rule, String... patterns) {
        for (String pattern : patterns) {
            Matcher m = Pattern.compile(pattern).matcher(text);
            must(!m.find(), rule + ": " + pattern);
        }
    }

    private static String bodyFrom(String text, int open) {
        int depth = 0;
        for (int i = open; i < text.length(); i++) {
            depth += text.charAt(i) == '{' ? 1 : text.charAt(i) == '}' ? -1 : 0;
            if (depth == 0) {
                return text.substring(open, i + 1);
            }
        }
        return text.substring(open);
    }

    private static void methods(String text) {
        Set<String> open = new HashSet<>();
        Set<String> closed = new HashSet<>();
        Matcher m = METHOD.matcher(text);
        while (m.find()) {
            String name = m.group(4);
            boolean maker = m.group(3) == null || m.group(3).isBlank();
            String body = bodyFrom(text, m.end() - 1);
            must(body.lines().count() <= 60, "rule 11: " + name + " is long");
            must(m.group(5).split(",").length <= 7, "rule 11: parameters of " + name);
            must(maker || !body.contains("new "), "room: " + name + " makes an object");
            if (!maker) {
                (m.group(1).equals("public ") ? open : closed).add(name);
            }
        }
        must(open.size() == 36, "rule 1: public methods, " + open.size());
        closed.retainAll(open);
        must(closed.isEmpty(), "rule 1: private ones bear public names: " + closed);
    }

    private static void text(String whole) {
        must(whole.chars().allMatch(c -> c < 127), "signs of 1 to 127");
        String text = withoutComments(whole);
        noneOf(text, "rule 6", "\\b(throws?|try|catch|finally|synchronized|assert)\\b",
                "\\b(equals|hashCode|toString)\\b");
        noneOf(text, "rule 2", "->", "::", "\\bclass \\w+ extends\\b", "\\bnew \\w+\\([^)]*\\) \\{");
        noneOf(text, "rule 4", "Exact\\b", "\\bimport (?!java\\.util\\.Arrays;)", "\\bSystem\\.(?!arraycopy)",
                "MIN_VALUE|MAX_VALUE", "\\bArrays\\.(?!fill|copyOf)");
        noneOf(text, "rule 5", "static \\{", "(?m)^ *(private|public)? ?static (?!final)[\\w\\[\\]]+ \\w+( =|;)");
        noneOf(text, "rule 3", "\\bObject\\b", "\\bvar\\b", "[\"']");
        noneOf(text, "rule 9", "while \\(true\\)", "for \\(;;");
        Matcher kinds = Pattern.compile("\\bclass (\\w+)").matcher(text);
        int found = 0;
        while (kinds.find()) {
            found++;
        }
        must(found <= 12, "rule 11: classes, " + found);
        methods(text);
    }

    private static void fields(Class<?> kind) {
        int own = 0;
        for (Field f : kind.getDeclaredFields()) {
            own += Modifier.isStatic(f.getModifiers()) ? 0 : 1;
            must(!Modifier.isStatic(f.getModifiers()) || Modifier.isFinal(f.getModifiers()), "rule 5: " + f);
        }
        must(own <= 20, "rule 11: fields of " + kind);
        must(kind == StepMeters.class || Modifier.isStatic(kind.getModifiers()), "rule 2: " + kind);
        for (Class<?> inside : kind.getDeclaredClasses()) {
            fields(inside);
        }
    }

    /** Objects and arrays reached from one bench, and their fields and elements. */
    private static int[] room(Object bench) throws IllegalAccessException {
        Set<Object> met = Collections.newSetFromMap(new IdentityHashMap<>());
        Deque<Object> open = new ArrayDeque<>();
        open.add(bench);
        int elements = 0;
        while (!open.isEmpty()) {
            Object o = open.remove();
            if (!met.add(o)) {
                continue;
            }
            if (o.getClass().isArray()) {
                elements += Array.getLength(o);
                for (int i = 0; o instanceof Object[] row && i < row.length; i++) {
                    open.add(row[i]);
                }
                continue;
            }
            for (Field f : o.getClass().getDeclaredFields()) {
                if (!Modifier.isStatic(f.getModifiers())) {
                    elements++;
                    f.setAccessible(true);
                    if (!f.getType().isPrimitive() && f.get(o) != null) {
                        open.add(f.get(o));
                    }
                }
            }
        }
        return new int[] {met.size(), elements};
    }

    public static void main(String[] args) throws IOException, IllegalAccessException {
        String file = System.getProperty("source", "src/main/java/StepMeters.java");
        text(Files.readString(Path.of(file)));
        fields(StepMeters.class);
        int[] room = room(new StepMeters());
        System.out.println("one bench: " + room[0] + " objects and arrays, " + room[1] + " fields and elements");
        must(room[0] <= 400 && room[1] <= 15_000, "room of one bench");
        if (wrong != 0) {
            System.exit(1);
        }
        System.out.println("no rule seen broken");
    }
}
