/** A GuardedRules under test, with rules written as text and a count of the answers that are not as due. */
final class Bench {
    private static int wrong = 0;
    private static int asked = 0;

    final Counted x = new Counted();

    /** What the tokens bear whose value isn't looked at. */
    int idle = 0;
    private final String name;

    Bench(String name) {
        this.name = name;
    }

    /** Objects of the given classes, made in that order. */
    Bench with(int... classes) {
        for (int i = 0; i < classes.length; i++) {
            due("object", x.object(classes[i]), i);
        }
        return this;
    }

    /** Eight objects, as many as there can be; object o has the class o % 3. */
    Bench withEight() {
        return with(0, 1, 2, 0, 1, 2, 0, 1);
    }

    /** Rules 3, 4 and 5, which use up 1, 5 and 21 units when they are called at object 0, whose list 5 they need full. */
    Bench fuelled() {
        for (int i = 0; i < 4; i++) {
            due("link", x.link(0, 5, 0), true);
        }
        rule(3, GuardedRules.NUM, "0");
        rule(4, GuardedRules.NUM, "sum0 ( it .5 : 0 )");
        rule(5, GuardedRules.NUM, "sum0 ( it .5 : sum1 ( it .5 : 0 ) )");
        return this;
    }

    /** A text of the value 0 that uses up so many units, 0 to 40, at object 0 of a fuelled bench. */
    static String burn(int units) {
        String[] calls = {"r5 ( it )", "r4 ( it )", "r3 ( it )"};
        int[] costs = {21, 5, 1};
        StringBuilder text = new StringBuilder();
        int left = units;
        for (int i = 0; i < calls.length; i++) {
            for (; left >= costs[i]; left -= costs[i]) {
                text.append(text.length() == 0 ? "" : " + ").append(calls[i]);
            }
        }
        return text.length() == 0 ? "0" : text.toString();
    }

    /** A text so many times, with blanks between. */
    static String times(int count, String text) {
        return (text + " ").repeat(count).trim();
    }

    static int countOf(String text) {
        return text.isBlank() ? 0 : text.trim().split("\\s+").length;
    }

    void due(String what, long got, long want) {
        asked++;
        if (got != want) {
            wrong++;
            System.out.println(name + ": " + what + " answered " + got + ", due is " + want);
        }
    }

    void due(String what, boolean got, boolean want) {
        due(what, got ? 1 : 0, want ? 1 : 0);
    }

    /** Appends the tokens of a text: its words stand apart; .p is DOT, ?.p SAFE, v VAR, r RULE. */
    void type(String text) {
        if (text.isBlank()) {
            return;
        }
        for (String word : text.trim().split("\\s+")) {
            due("token " + word, append(word), true);
        }
    }

    private boolean append(String word) {
        int[] token = tokenOf(word, idle);
        return x.token(token[0], token[1]);
    }

    /** The kind and the value of a word; idle is the value where it isn't looked at. */
    static int[] tokenOf(String word, int idle) {
        String[] plain = {"it", "(", ")", "?", ":", "||", "&&", "!", "==", "<", "+", "-", "*", "/", "null"};
        int[] kinds = {3, 6, 7, 8, 9, 10, 11, 12, 13, 14, 15, 16, 17, 18, 19};
        for (int i = 0; i < plain.length; i++) {
            if (word.equals(plain[i])) {
                return new int[] {kinds[i], idle};
            }
        }
        String[] heads = {"?.", ".", "v", "r", "any", "all", "sum"};
        int[] headKinds = {2, 1, 4, 5, 20, 21, 22};
        for (int i = 0; i < heads.length; i++) {
            if (word.startsWith(heads[i])) {
                return new int[] {headKinds[i], Integer.parseInt(word.substring(heads[i].length()))};
            }
        }
        return new int[] {0, Integer.parseInt(word)};
    }

    /** Compiles a text that must pass. */
    void rule(int r, int kind, String text) {
        finding(r, kind, text, GuardedRules.OK, -1);
    }

    /** Compiles a text on an empty token list, looks at the finding and its place, and at what became of the tokens. */
    void finding(int r, int kind, String text, int want, int place) {
        x.wipe();
        type(text);
        int count = countOf(text);
        due("compile " + r + " kind " + kind + " of " + text, x.compile(r, kind), want);
        due("place of " + text, x.place(), place);
        due("tokens left of " + text, x.wipe(), want == GuardedRules.OK ? 0 : count);
    }

    void value(int r, int o, int result, int used) {
        answer(r, o, GuardedRules.VALUE, result, -1, used);
    }

    void error(int r, int o, int error, int place, int used) {
        answer(r, o, error, 0, place, used);
    }

    private void answer(int r, int o, int want, int result, int place, int used) {
        String call = "eval " + r + " at " + o;
        due(call, x.eval(r, o), want);
        due("result of " + call, x.result(), result);
        due("errorAt of " + call, x.errorAt(), place);
        due("used of " + call, x.used(), used);
    }

    /** Compiles a text as rule 0 of the kind and evaluates it at object 0. */
    void yields(int kind, String text, int result) {
        rule(0, kind, text);
        due("eval of " + text, x.eval(0, 0), GuardedRules.VALUE);
        due("result of " + text, x.result(), result);
        due("errorAt of " + text, x.errorAt(), -1);
    }

    /** Compiles a text as rule 0 of the kind; evaluating it at object 0 must fail. */
    void fails(int kind, String text, int error, int place) {
        rule(0, kind, text);
        due("eval of " + text, x.eval(0, 0), error);
        due("result of " + text, x.result(), 0);
        due("errorAt of " + text, x.errorAt(), place);
    }

    /** Ends the test's program: exit code 1 if an answer was not as due, or if nothing was asked. */
    static void end(String test) {
        System.out.println(test + ": " + asked + " answers looked at, " + wrong + " not as due");
        if (wrong != 0 || asked == 0) {
            System.exit(1);
        }
    }
}
