import java.io.IOException;
import java.lang.reflect.Constructor;
import java.lang.reflect.Executable;
import java.lang.reflect.Field;
import java.lang.reflect.Method;
import java.lang.reflect.Modifier;
import java.nio.file.Files;
import java.nio.file.Path;
import java.util.Set;
import java.util.TreeSet;

/** "The public face": the class has just what ../shared/DOC.md writes out there, and nothing more. */
public final class FaceTest extends Checks {

    private static String theFaceOfTheDocument() throws IOException {
        String doc = Files.readString(Path.of(System.getProperty("shared", "../shared"), "DOC.md"));
        int from = doc.indexOf("```java", doc.indexOf("## The public face"));
        return doc.substring(from + "```java".length(), doc.indexOf("```", from + 3));
    }

    /** A member of the document as the machine tells it: without the names of what is handed in. */
    private static String plain(String member) {
        return member.trim().replaceAll("(int|boolean) \\w+(?=[,)])", "$1").replaceAll("\\s+", " ");
    }

    private static Set<String> membersOfTheDocument(String face) {
        Set<String> all = new TreeSet<>();
        String body = face.substring(face.indexOf('{') + 1, face.lastIndexOf('}'));
        for (String member : body.split(";")) {
            if (!member.isBlank()) {
                all.add(plain(member));
            }
        }
        return all;
    }

    private static String takes(Executable e) {
        StringBuilder all = new StringBuilder("(");
        for (Class<?> type : e.getParameterTypes()) {
            all.append(all.length() > 1 ? ", " : "").append(type.getName());
        }
        due("exceptions of " + e.getName(), e.getExceptionTypes().length, 0);
        return all.append(')').toString();
    }

    private static String modifiers(int all) {
        return all == 0 ? "" : Modifier.toString(all) + " ";
    }

    private static Set<String> membersOfTheClass() throws IllegalAccessException {
        Set<String> all = new TreeSet<>();
        for (Field f : StepMeters.class.getDeclaredFields()) {
            if (!Modifier.isPrivate(f.getModifiers())) {
                String value = Modifier.isStatic(f.getModifiers()) ? " = " + f.get(null) : "";
                all.add(modifiers(f.getModifiers()) + f.getType().getName() + " " + f.getName() + value);
            }
        }
        for (Constructor<?> c : StepMeters.class.getDeclaredConstructors()) {
            if (!Modifier.isPrivate(c.getModifiers())) {
                all.add(modifiers(c.getModifiers()) + "StepMeters" + takes(c));
            }
        }
        for (Method m : StepMeters.class.getDeclaredMethods()) {
            if (!Modifier.isPrivate(m.getModifiers())) {
                all.add(modifiers(m.getModifiers()) + m.getReturnType().getName() + " " + m.getName() + takes(m));
            }
        }
        return all;
    }

    private static void members(String face) throws IllegalAccessException {
        of("The public face");
        Set<String> due = membersOfTheDocument(face);
        due("members in the document", due.size(), 38);
        Set<String> had = membersOfTheClass();
        for (String member : due) {
            due("has " + member, had.contains(member), true);
        }
        for (String member : had) {
            due("may have " + member, due.contains(member), true);
        }
    }

    private static void theClassItself(String face) {
        of("public final class StepMeters");
        due("head", face.substring(0, face.indexOf('{')).trim(), "public final class StepMeters");
        Class<?> kind = StepMeters.class;
        due("modifiers", Modifier.toString(kind.getModifiers()), "public final");
        due("without a package", kind.getName(), "StepMeters");
        due("stands on Object alone", kind.getSuperclass() == Object.class, true);
        due("interfaces", kind.getInterfaces().length, 0);
        for (Class<?> inside : kind.getDeclaredClasses()) {
            boolean open = Modifier.isPublic(inside.getModifiers()) || Modifier.isProtected(inside.getModifiers());
            due(inside + " is open", open, false);
        }
    }

    public static void main(String[] args) throws IOException, IllegalAccessException {
        String face = theFaceOfTheDocument();
        members(face);
        theClassItself(face);
        end();
    }
}
