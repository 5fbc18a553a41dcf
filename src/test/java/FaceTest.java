import java.io.IOException;
import java.lang.reflect.Constructor;
import java.lang.reflect.Field;
import java.lang.reflect.Method;
import java.lang.reflect.Modifier;
import java.nio.file.Files;
import java.nio.file.Path;
import java.util.ArrayList;
import java.util.List;
import java.util.Set;
import java.util.TreeSet;

/** "The public face": what can be seen of the class from outside is what the document shows, and nothing else. */
public final class FaceTest {
    private static final Path DOCUMENT = Path.of("../shared/DOC.md");

    public static void main(String[] args) throws IllegalAccessException, IOException {
        Set<String> due = shown(Files.readString(DOCUMENT));
        Set<String> found = seen();
        int wrong = tell("not there: ", due, found) + tell("not in the document: ", found, due);
        System.out.println("FaceTest: " + due.size() + " lines and constants, " + wrong + " faults");
        if (wrong != 0 || due.isEmpty()) {
            System.exit(1);
        }
    }

    private static int tell(String what, Set<String> some, Set<String> others) {
        int count = 0;
        for (String each : some) {
            if (!others.contains(each)) {
                count++;
                System.out.println(what + each);
            }
        }
        return count;
    }

    /** The lines of the document's face; of a line of constants each one for itself, of a method the types alone. */
    private static Set<String> shown(String document) {
        String face = document.substring(document.indexOf("## The public face"), document.indexOf("## Terms"));
        String code = face.substring(face.indexOf("```java") + 7, face.lastIndexOf("```"));
        Set<String> found = new TreeSet<>();
        for (String line : code.split("\n")) {
            String text = line.trim().replaceAll("[;{]$", "").trim();
            if (text.contains("=")) {
                addConstants(found, text);
            } else if (!text.isEmpty() && !text.equals("}")) {
                found.add(text.replaceAll("\\b(int|boolean) \\w+(?=[,)])", "$1"));
            }
        }
        return found;
    }

    private static void addConstants(Set<String> found, String line) {
        String head = "public static final int ";
        for (String constant : line.substring(head.length()).split(",")) {
            found.add(head + constant.trim());
        }
    }

    private static Set<String> seen() throws IllegalAccessException {
        Set<String> found = new TreeSet<>();
        Class<?> face = GuardedRules.class;
        found.add(Modifier.toString(face.getModifiers()) + " class " + face.getName());
        for (Class<?> inner : face.getDeclaredClasses()) {
            found.add("class " + inner.getName());
        }
        for (Constructor<?> made : face.getDeclaredConstructors()) {
            found.add(Modifier.toString(made.getModifiers()) + " " + made.getName() + types(made.getParameterTypes()));
        }
        for (Method m : face.getDeclaredMethods()) {
            if (!Modifier.isPrivate(m.getModifiers())) {
                found.add(Modifier.toString(m.getModifiers()) + " " + m.getReturnType() + " " + m.getName() + types(m.getParameterTypes()));
            }
        }
        for (Field f : face.getDeclaredFields()) {
            if (!Modifier.isPrivate(f.getModifiers())) {
                String value = Modifier.isStatic(f.getModifiers()) ? " = " + f.get(null) : "";
                found.add(Modifier.toString(f.getModifiers()) + " " + f.getType() + " " + f.getName() + value);
            }
        }
        if (face.getSuperclass() != Object.class || face.getInterfaces().length != 0) {
            found.add("a class above");
        }
        return found;
    }

    private static String types(Class<?>[] parameters) {
        List<String> names = new ArrayList<>();
        for (Class<?> type : parameters) {
            names.add(type.getName());
        }
        return "(" + String.join(", ", names) + ")";
    }
}
