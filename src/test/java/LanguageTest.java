import java.io.IOException;
import java.lang.reflect.Field;
import java.lang.reflect.Method;
import java.lang.reflect.Modifier;
import java.nio.file.Files;
import java.nio.file.Path;
import java.util.ArrayList;
import java.util.List;
import java.util.Map;
import java.util.Set;
import java.util.TreeMap;
import java.util.TreeSet;
import java.util.regex.Matcher;
import java.util.regex.Pattern;

/** The rules of LANGUAGE.md that can be seen from the text of the class. */
public final class LanguageTest {
    private static final Path SOURCE = Path.of("src/main/java/GuardedRules.java");
    private static final Pattern METHOD = Pattern.compile(
        "(?m)^    (?:public|private) (?:static )?(?:int|long|boolean|void) (\\w+)\\(([^)]*)\\) \\{\\n((?s:.*?))^    \\}\\n");
    private static final Pattern CALL = Pattern.compile("\\b([a-z]\\w*)\\(");

    private static final Pattern COUNTED = Pattern.compile("int (\\w+) = \\w+; \\1 [<>] [^;]+; \\1(\\+\\+|--)");

    private static final Map<String, Set<String>> calls = new TreeMap<>();
    private static int wrong = 0;

    public static void main(String[] args) throws IOException {
        String text = withoutComments(Files.readString(SOURCE));
        members();
        fields();
        statics(text);
        words(text);
        arrays(text);
        methods(text);
        for (String name : calls.keySet()) {
            depth(name, new ArrayList<>());
        }
        System.out.println("LanguageTest: " + calls.size() + " methods looked at, " + wrong + " breaches");
        // Otherwise a method would have gone by unlooked at.
        if (wrong != 0 || calls.size() != GuardedRules.class.getDeclaredMethods().length) {
            System.exit(1);
        }
    }

    private static void breach(int rule, String what) {
        wrong++;
        System.out.println("rule " + rule + ": " + what);
    }

    private static String withoutComments(String text) {
        return text.replaceAll("(?s)/\\*.*?\\*/", "").replaceAll("//[^\\n]*", "");
    }

    /** FaceTest compares the face with the document; here is what else rule 1 asks. */
    private static void members() {
        Set<String> names = new TreeSet<>();
        for (Method m : GuardedRules.class.getDeclaredMethods()) {
            if (Modifier.isPublic(m.getModifiers())) {
                names.add(m.getName());
            }
        }
        for (Method m : GuardedRules.class.getDeclaredMethods()) {
            boolean isPrivate = Modifier.isPrivate(m.getModifiers());
            if (!isPrivate && !Modifier.isPublic(m.getModifiers()) || isPrivate && names.contains(m.getName())) {
                breach(1, "method " + m);
            }
        }
    }

    private static void fields() {
        Set<Class<?>> types = Set.of(int.class, boolean.class, int[].class, boolean[].class);
        int own = 0;
        for (Field f : GuardedRules.class.getDeclaredFields()) {
            if (!types.contains(f.getType())) {
                breach(2, "field " + f);
            }
            own += Modifier.isStatic(f.getModifiers()) ? 0 : 1;
        }
        if (own > 40) {
            breach(10, own + " fields");
        }
    }

    private static void statics(String text) {
        Matcher line = Pattern.compile("(?m)^.*\\bstatic\\b.*$").matcher(text);
        while (line.find()) {
            String constant = "[A-Z_]+ = -?[0-9]+";
            if (!line.group().matches(" *(public|private) static final int " + constant + "(, " + constant + ")*;")) {
                breach(5, line.group().trim());
            }
        }
    }

    private static void words(String text) {
        String[] forbidden = {"import", "package", "float", "double", "String", "Math", "Integer", "System", "Arrays", "Object",
            "throw", "throws", "try", "catch", "finally", "synchronized", "assert", "instanceof", "null", "interface", "enum",
            "record", "protected", "var", "this", "super", "native", "volatile", "transient"};
        for (String word : forbidden) {
            if (Pattern.compile("\\b" + word + "\\b").matcher(text).find()) {
                breach(3, "the word " + word);
            }
        }
        String[] signs = {"->", "::", "\"", "[][]", "@", ".length"};
        for (String sign : signs) {
            if (text.contains(sign)) {
                breach(2, "the sign " + sign);
            }
        }
        if (Pattern.compile("\\w\\.\\w").matcher(text).find()) {
            breach(3, "a member of another class or object");
        }
    }

    private static void arrays(String text) {
        Matcher made = Pattern.compile("(?m)^(.*)\\bnew\\b(.*)$").matcher(text);
        while (made.find()) {
            String line = made.group().trim();
            if (!line.matches("private final (int|boolean)\\[\\] \\w+ = new \\1\\[([A-Z_]+|[1-9][0-9]*)\\];")) {
                breach(4, line);
            }
        }
    }

    private static void methods(String text) {
        Matcher each = METHOD.matcher(text);
        while (each.find()) {
            String name = each.group(1);
            String body = each.group(3);
            Set<String> callees = new TreeSet<>();
            Matcher call = CALL.matcher(body);
            while (call.find()) {
                if (!isKeyword(call.group(1))) {
                    callees.add(call.group(1));
                    lookAtArguments(name, call.group(1), body, call.end());
                }
            }
            if (calls.put(name, callees) != null) {
                breach(1, "two methods named " + name);
            }
            if (body.split("\n").length > 58) {
                breach(10, name + " is too long");
            }
            if (each.group(2).split(",").length > 7) {
                breach(10, name + " has too many parameters");
            }
            loops(name, body);
        }
    }

    private static void loops(String name, String body) {
        if (Pattern.compile("\\b(while|do)\\b").matcher(body).find()) {
            breach(8, name + " has a loop without a counter");
        }
        Matcher loop = Pattern.compile("\\bfor \\((.*)\\) \\{").matcher(body);
        while (loop.find()) {
            Matcher head = COUNTED.matcher(loop.group(1));
            if (!head.matches() || Pattern.compile("\\b" + head.group(1) + "(\\+\\+|--| [-+*/]?= )").matcher(body.substring(loop.end())).find()) {
                breach(8, name + " has a loop without a bound: " + loop.group());
            }
        }
    }

    private static boolean isKeyword(String word) {
        return Set.of("if", "for", "while", "switch", "return").contains(word);
    }

    private static void lookAtArguments(String method, String callee, String body, int from) {
        int open = 1;
        int to = from;
        while (open > 0) {
            char c = body.charAt(to++);
            open += c == '(' ? 1 : c == ')' ? -1 : 0;
        }
        if (CALL.matcher(body.substring(from, to)).find()) {
            breach(10, "in " + method + " a call stands inside the arguments of " + callee);
        }
    }

    private static void depth(String name, List<String> above) {
        if (above.contains(name)) {
            breach(8, "recursion: " + above + " " + name);
            return;
        }
        List<String> chain = new ArrayList<>(above);
        chain.add(name);
        if (chain.size() > 6) {
            breach(10, "calls too deep: " + chain);
        }
        if (!calls.containsKey(name)) {
            breach(3, "no such method here: " + name);
            return;
        }
        for (String callee : calls.get(name)) {
            depth(callee, chain);
        }
    }
}
