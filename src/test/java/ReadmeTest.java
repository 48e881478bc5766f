import java.io.IOException;
import java.nio.file.Files;
import java.nio.file.Path;
import java.util.Arrays;
import java.util.Set;
import java.util.TreeSet;
import java.util.regex.Matcher;
import java.util.regex.Pattern;

/** README.md: its example answers what it says, line by line, and its table names each call once. */
public final class ReadmeTest extends Checks {
    private static final Pattern LINE =
            Pattern.compile("bench\\.(\\w+)\\((.*?)\\); +// (true|false|-?\\d+)(: .*)?");

    private static Object handed(String text) {
        if (text.equals("true") || text.equals("false")) {
            return Boolean.valueOf(text);
        }
        return Integer.valueOf(text);
    }

    private static String answer(StepMeters bench, String name, String with) throws ReflectiveOperationException {
        Object[] all = with.isEmpty() ? new Object[0]
                : Arrays.stream(with.split(", ")).map(ReadmeTest::handed).toArray();
        Class<?>[] types = new Class<?>[all.length];
        for (int i = 0; i < all.length; i++) {
            types[i] = all[i] instanceof Boolean ? boolean.class : int.class;
        }
        return String.valueOf(StepMeters.class.getMethod(name, types).invoke(bench, all));
    }

    private static void example(String readme) throws ReflectiveOperationException {
        of("README.md, Use");
        int from = readme.indexOf("```java\n") + "```java\n".length();
        String[] lines = readme.substring(from, readme.indexOf("```", from)).split("\n");
        due("the first line", lines[0], "StepMeters bench = new StepMeters();");
        StepMeters bench = new StepMeters();
        for (int i = 1; i < lines.length; i++) {
            Matcher m = LINE.matcher(lines[i]);
            due("is a call with its answer: " + lines[i], m.matches(), true);
            if (m.matches()) {
                due(lines[i], answer(bench, m.group(1), m.group(2)), m.group(3));
            }
        }
    }

    private static void table(String readme) {
        of("README.md, the calls");
        Set<String> named = new TreeSet<>();
        for (String row : readme.substring(readme.indexOf("| calls |")).split("\n\n")[0].split("\n")) {
            Matcher name = Pattern.compile("`(\\w+)`").matcher(row.split("\\|")[1]);
            while (name.find()) {
                due("named once: " + name.group(1), named.add(name.group(1)), true);
            }
        }
        Arrays.stream(StepMeters.class.getMethods())
                .filter(m -> m.getDeclaringClass() == StepMeters.class)
                .forEach(m -> due("names " + m.getName(), named.remove(m.getName()), true));
        due("and no others", named.toString(), "[]");
    }

    public static void main(String[] args) throws IOException, ReflectiveOperationException {
        String readme = Files.readString(Path.of(System.getProperty("readme", "README.md")));
        example(readme);
        table(readme);
        end();
    }
}
