import java.io.IOException;
import java.lang.reflect.Field;
import java.lang.reflect.Method;
import java.lang.reflect.Modifier;
import java.nio.file.Files;
import java.nio.file.Path;
import java.util.ArrayList;
import java.util.List;
import java.util.Set;
import java.util.TreeSet;
import java.util.regex.Matcher;
import java.util.regex.Pattern;
import java.util.stream.Stream;

/** README.md: its example answers what it says, and its tables name what is there. */
public final class ReadmeTest {
    private static final Path README = Path.of("README.md"), TESTS = Path.of("src/test/java");
    private static final Path SOURCE = TESTS.resolve("ReadmeTest.java");
    private static final Pattern CALL = Pattern.compile("x\\.(\\w+)\\(([^)]*)\\); *// (OK|CLASH|VALUE|DENIED|REFUSED)\\b.*");

    private static int wrong = 0;

    public static void main(String[] args) throws IOException, IllegalAccessException {
        String readme = Files.readString(README);
        List<String> example = exampleOf(readme);
        sameAsBelow(example);
        example();
        due("findings and outcomes told in the example", count(example), 8);
        methodsAndConstants(readme);
        tests(readme);
        System.out.println("ReadmeTest: " + example.size() + " lines of an example, " + wrong + " faults");
        if (wrong != 0) {
            System.exit(1);
        }
    }

    private static void due(String what, long got, long want) {
        if (got != want) {
            wrong++;
            System.out.println(what + ": " + got + ", due is " + want);
        }
    }

    private static List<String> exampleOf(String readme) {
        int from = readme.indexOf("```java\n") + 8;
        List<String> lines = new ArrayList<>();
        for (String line : readme.substring(from, readme.indexOf("```", from)).split("\n")) {
            if (!line.isBlank()) {
                lines.add(line.trim());
            }
        }
        return lines;
    }

    private static int count(List<String> example) {
        int count = 0;
        for (String line : example) {
            count += CALL.matcher(line).matches() ? 1 : 0;
        }
        return count;
    }

    /** The lines of README's example stand in the method example, in their order, each with the answer that it tells. */
    private static void sameAsBelow(List<String> example) throws IOException {
        String source = Files.readString(SOURCE);
        int at = source.indexOf("private static void example()");
        for (String line : example) {
            Matcher told = CALL.matcher(line);
            String code = told.matches()
                ? "x." + told.group(1) + "(" + told.group(2) + "), GuardedRules." + told.group(3) + ");"
                : line.replaceAll(" *//.*", "");
            int found = source.indexOf(code, at);
            if (found < 0) {
                due("not in the test: " + code, 0, 1);
            } else {
                at = found + code.length();
            }
        }
    }

    /**
     * "Rules over a few linked host objects: typed expressions with navigation, quantifiers over lists and calls of other
     * rules, behind a policy that says which properties of which class may be read, and under a budget."
     */
    private static void example() {
        GuardedRules x = new GuardedRules();
        int order = x.object(0);
        int item = x.object(1);
        x.set(item, 0, 7);
        x.link(order, 4, item);
        x.link(order, 4, item);
        x.token(22, 0);
        x.token(6, 0);
        x.token(3, 0);
        x.token(1, 4);
        x.token(9, 0);
        x.token(4, 0);
        x.token(1, 0);
        x.token(7, 0);
        due("compile", x.compile(0, GuardedRules.NUM), GuardedRules.OK);
        x.token(5, 0);
        x.token(6, 0);
        x.token(3, 0);
        x.token(7, 0);
        x.token(14, 0);
        x.token(0, 10);
        due("compile", x.compile(1, GuardedRules.NUM), GuardedRules.CLASH);
        due("place", x.place(), 6);
        due("compile", x.compile(1, GuardedRules.BOOL), GuardedRules.OK);
        due("place", x.place(), -1);
        due("eval", x.eval(0, order), GuardedRules.VALUE);
        dueAnswers(x, 14, -1, 2);
        due("eval", x.eval(1, order), GuardedRules.VALUE);
        dueAnswers(x, 0, -1, 3);
        x.allow(1, 0, false);
        due("eval", x.eval(0, order), GuardedRules.DENIED);
        dueAnswers(x, 0, 6, 1);
        due("eval", x.eval(1, order), GuardedRules.DENIED);
        dueAnswers(x, 0, 0, 2);
        due("eval", x.eval(1, 5), GuardedRules.REFUSED);
        dueAnswers(x, 0, 0, 2);
        budget(x, order);
    }

    /** The example goes on with a list that needs more units than there are. */
    private static void budget(GuardedRules x, int order) {
        x.allow(1, 0, true);
        x.link(order, 4, order);
        x.link(order, 4, order);
        for (String word : "sum1 ( it .4 : sum2 ( it .4 : r0 ( it ) ) )".split(" ")) {
            int[] token = Bench.tokenOf(word, 0);
            due("token", x.token(token[0], token[1]) ? 1 : 0, 1);
        }
        due("compile", x.compile(2, GuardedRules.NUM), GuardedRules.OK);
        due("eval", x.eval(2, order), GuardedRules.STOPPED);
        dueAnswers(x, 0, 10, 40);
    }

    private static void dueAnswers(GuardedRules x, int result, int errorAt, int used) {
        due("result", x.result(), result);
        due("errorAt", x.errorAt(), errorAt);
        due("used", x.used(), used);
    }

    private static void methodsAndConstants(String readme) throws IllegalAccessException {
        for (Method m : GuardedRules.class.getDeclaredMethods()) {
            if (Modifier.isPublic(m.getModifiers()) && !readme.contains("\n| `" + m.getName() + "(")) {
                due("method not in README: " + m.getName(), 0, 1);
            }
        }
        for (Field f : GuardedRules.class.getDeclaredFields()) {
            if (Modifier.isPublic(f.getModifiers()) && !readme.contains("`" + f.getName() + "` = " + f.get(null))) {
                due("constant not in README: " + f.getName(), 0, 1);
            }
        }
    }

    private static void tests(String readme) throws IOException {
        Set<String> there = new TreeSet<>();
        try (Stream<Path> files = Files.list(TESTS)) {
            files.map(file -> file.getFileName().toString()).filter(name -> name.endsWith("Test.java"))
                .forEach(name -> there.add(name.replace(".java", "")));
        }
        Set<String> named = new TreeSet<>();
        Matcher row = Pattern.compile("(?m)^\\| `(\\w+Test)` \\|").matcher(readme);
        while (row.find()) {
            named.add(row.group(1));
        }
        if (!there.equals(named)) {
            due("tests in README " + named + ", there are " + there, 0, 1);
        }
    }
}
