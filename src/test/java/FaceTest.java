import java.lang.reflect.Constructor;
import java.lang.reflect.Field;
import java.lang.reflect.Method;
import java.lang.reflect.Modifier;
import java.nio.file.Files;
import java.nio.file.Path;
import java.util.Arrays;
import java.util.TreeSet;

/** The public face is the document's, and nothing else of the class can be seen from outside. */
public final class FaceTest {
    public static void main(String[] args) throws Exception {
        Checks checks = new Checks("FaceTest");
        Class<?> face = VillageShow.class;
        checks.yes("the class is public and final",
            Modifier.isPublic(face.getModifiers()) && Modifier.isFinal(face.getModifiers()));
        checks.due("NONE", VillageShow.NONE, -1);

        TreeSet<String> asked = askedFor();
        checks.due("methods in the document", asked.size(), 37);
        TreeSet<String> there = new TreeSet<>();
        TreeSet<String> hidden = new TreeSet<>();
        for (Method method : face.getDeclaredMethods()) {
            if (Modifier.isPrivate(method.getModifiers())) {
                hidden.add(method.getName());
                continue;
            }
            checks.yes(method + " is public and no static one",
                Modifier.isPublic(method.getModifiers()) && !Modifier.isStatic(method.getModifiers()));
            there.add(told(method));
        }
        checks.yes("methods: asked for " + asked + ", there are " + there, asked.equals(there));
        for (Method method : face.getDeclaredMethods()) {
            if (Modifier.isPublic(method.getModifiers())) {
                checks.no("a private method is called " + method.getName(), hidden.contains(method.getName()));
            }
        }
        for (Field field : face.getDeclaredFields()) {
            checks.yes(field + " is private, or NONE",
                Modifier.isPrivate(field.getModifiers()) || field.getName().equals("NONE"));
        }
        Constructor<?>[] made = face.getDeclaredConstructors();
        checks.yes("one public constructor without parameters", made.length == 1
            && Modifier.isPublic(made[0].getModifiers()) && made[0].getParameterCount() == 0);
        for (Class<?> inside : face.getDeclaredClasses()) {
            checks.yes(inside + " is static and not public", Modifier.isStatic(inside.getModifiers())
                && !Modifier.isPublic(inside.getModifiers()) && !Modifier.isProtected(inside.getModifiers()));
        }
        checks.end();
    }

    private static String told(Method method) {
        StringBuilder text = new StringBuilder();
        text.append(method.getReturnType()).append(' ').append(method.getName()).append('(');
        for (Class<?> type : method.getParameterTypes()) {
            text.append(type).append(' ');
        }
        text.append(')');
        for (Class<?> type : method.getExceptionTypes()) {
            text.append(" throws ").append(type.getSimpleName());
        }
        return text.toString();
    }

    /** Read from the document itself, so that a change there is seen here. */
    private static TreeSet<String> askedFor() throws Exception {
        TreeSet<String> asked = new TreeSet<>();
        for (String line : Files.readAllLines(Path.of("../shared/DOC.md"))) {
            if (!line.startsWith("    public ") || !line.contains("(") || line.contains("VillageShow()")) {
                continue;
            }
            String head = line.substring("    public ".length(), line.indexOf('('));
            String inside = line.substring(line.indexOf('(') + 1, line.indexOf(')'));
            StringBuilder text = new StringBuilder(head).append('(');
            if (!inside.isEmpty()) {
                Arrays.stream(inside.split(", ")).forEach(p -> text.append(p.split(" ")[0]).append(' '));
            }
            text.append(')');
            if (line.contains("throws ")) {
                text.append(" throws ").append(line, line.indexOf("throws ") + 7, line.length() - 1);
            }
            asked.add(text.toString());
        }
        return asked;
    }
}
