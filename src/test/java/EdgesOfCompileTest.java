/** The edges that the promises 6 to 9 name: token, wipe, compile, place. */
public final class EdgesOfCompileTest {
    private static final int NUM = GuardedRules.NUM, BOOL = GuardedRules.BOOL;
    private static final int OK = GuardedRules.OK, SYNTAX = GuardedRules.SYNTAX, BINDING = GuardedRules.BINDING;
    private static final int UNKNOWN = GuardedRules.UNKNOWN, CLASH = GuardedRules.CLASH, FIXED = GuardedRules.FIXED;
    private static final int REFUSED = GuardedRules.REFUSED;
    private static final int MIN = Integer.MIN_VALUE, MAX = Integer.MAX_VALUE;
    private static final String[] QUANTIFIERS = {"any", "all", "sum"};

    public static void main(String[] args) {
        tokenAppends();
        tokenOfBadKind();
        tokenOfBadValue();
        fortyTokens();
        wipeOfAnyNumber();
        compileRefused();
        compileBothKinds();
        syntaxAtTheFirstToken();
        syntaxMoreNeeded();
        bindingOfVariables();
        bindingTwice();
        bindingFirst();
        unknownRules();
        ownRuleIsThere();
        clashAtTheLeastPlace();
        fixedByAnother();
        fixedBySeveral();
        notFixed();
        firstOfTheFindings();
        findingsChangePlaceAlone();
        okReplacesOrAdds();
        okRemovesTokens();
        placeOfTheLatest();
        Bench.end("EdgesOfCompileTest");
    }

    /** "Appends a token." */
    private static void tokenAppends() {
        Bench b = new Bench("token").with(0);
        b.type("9");
        b.type("-");
        b.type("4");
        b.due("compile", b.x.compile(0, NUM), OK);
        b.value(0, 0, 5, 0);
        b.type("2");
        b.due("one token after a compile", b.x.compile(0, NUM), OK);
        b.value(0, 0, 2, 0);
        b.type("2 -");
        b.due("two tokens", b.x.compile(0, NUM), SYNTAX);
        b.type("7");
        b.due("a third behind them", b.x.compile(0, NUM), OK);
        b.value(0, 0, -5, 0);
    }

    /** "False, changing nothing, if kind is outside 0..22," */
    private static void tokenOfBadKind() {
        int[] bad = {MIN, MIN + 1, -23, -2, -1, 23, 24, 255, 256, 256 + 3, MAX};
        Bench b = new Bench("bad kinds").with(0);
        b.type("9 -");
        for (int kind : bad) {
            for (int value = -1; value < 7; value++) {
                b.due("token(" + kind + ", " + value + ")", b.x.token(kind, value), false);
            }
        }
        b.type("4");
        b.due("compile", b.x.compile(0, NUM), OK);
        b.value(0, 0, 5, 0);
        for (int kind = 0; kind < 23; kind++) {
            b.due("token(" + kind + ", 0)", b.x.token(kind, 0), true);
        }
        b.due("wipe", b.x.wipe(), 23);
    }

    /** "its value is looked at and outside its range," */
    private static void tokenOfBadValue() {
        int[] kinds = {1, 2, 4, 5, 20, 21, 22};
        int[] ends = {5, 5, 2, 5, 2, 2, 2};
        for (int i = 0; i < kinds.length; i++) {
            Bench b = new Bench("bad values of " + kinds[i]).with(0);
            b.type("9 -");
            int[] bad = {MIN, MIN + 2, -256, -1, ends[i] + 1, ends[i] + 2, 8, 256, 65536 + 1, MAX};
            for (int value : bad) {
                b.due("token " + value, b.x.token(kinds[i], value), false);
            }
            b.type("4");
            b.due("compile", b.x.compile(0, NUM), OK);
            b.value(0, 0, 5, 0);
            for (int value = 0; value <= ends[i]; value++) {
                b.due("token " + value, b.x.token(kinds[i], value), true);
            }
            b.due("wipe", b.x.wipe(), ends[i] + 1);
        }
    }

    /** "or there are 40 tokens." */
    private static void fortyTokens() {
        Bench b = new Bench("forty tokens").with(0);
        for (int round = 0; round < 2; round++) {
            for (int i = 0; i < 39; i++) {
                b.due("token " + i, b.x.token(16, 0), true);
            }
            b.due("the fortieth", b.x.token(0, 6 + round), true);
            for (int kind = -1; kind < 24; kind++) {
                b.due("one more", b.x.token(kind, 0), false);
            }
            b.due("compile of another kind", b.x.compile(0, BOOL), CLASH);
            b.due("its place", b.x.place(), 40);
            b.due("still forty", b.x.token(0, 5), false);
            b.due("compile", b.x.compile(0, NUM), OK);
            b.value(0, 0, -6 - round, 0);
        }
        for (int i = 0; i < 40; i++) {
            b.due("token", b.x.token(3, 0), true);
        }
        b.due("one more", b.x.token(3, 0), false);
        b.due("wipe", b.x.wipe(), 40);
        b.due("after wiping", b.x.token(3, 0), true);
        b.due("wipe", b.x.wipe(), 1);
    }

    /** "Removes all tokens; answers their number." */
    private static void wipeOfAnyNumber() {
        for (int count = 0; count <= 40; count++) {
            Bench b = new Bench("wipe of " + count).with(0);
            b.rule(0, NUM, "8");
            b.value(0, 0, 8, 0);
            for (int i = 0; i < count; i++) {
                b.x.token(i % 23, 0);
            }
            b.due("wipe", b.x.wipe(), count);
            b.due("wipe again", b.x.wipe(), 0);
            b.due("compile of nothing", b.x.compile(1, NUM), SYNTAX);
            b.due("its place", b.x.place(), 0);
            b.due("result stays", b.x.result(), 8);
            b.value(0, 0, 8, 0);
            b.rule(1, NUM, "3");
            b.value(1, 0, 3, 0);
        }
        Bench b = new Bench("wipe and place");
        b.type("1 1");
        b.x.compile(0, NUM);
        b.x.wipe();
        b.due("place stays", b.x.place(), 1);
    }

    /** "REFUSED if r is outside 0..5 or kind is neither." */
    private static void compileRefused() {
        int[] rules = {MIN, -6, -1, 0, 1, 5, 6, 7, 256, MAX};
        int[] kinds = {MIN, -1, 0, 1, 2, 3, 4, 257, MAX};
        String[] texts = {"", "1 )", "v0 .0", "r4 ( it )", "it"};
        for (String text : texts) {
            Bench b = new Bench("refused with " + text).with(0);
            b.rule(0, NUM, "11");
            b.rule(5, NUM, "55");
            b.type("it it it");
            b.due("compile", b.x.compile(1, NUM), SYNTAX);
            b.x.wipe();
            b.type(text);
            for (int r : rules) {
                for (int kind : kinds) {
                    if (r < 0 || r > 5 || kind < 1 || kind > 2) {
                        b.due("compile " + r + " " + kind, b.x.compile(r, kind), REFUSED);
                        b.due("place", b.x.place(), 1);
                    }
                }
            }
            b.due("tokens", b.x.wipe(), Bench.countOf(text));
            b.value(0, 0, 11, 0);
            b.value(5, 0, 55, 0);
        }
        Bench b = new Bench("refused at first");
        b.type("1");
        b.due("compile", b.x.compile(6, NUM), REFUSED);
        b.due("compile", b.x.compile(0, 0), REFUSED);
        b.due("place", b.x.place(), -1);
        b.due("compile", b.x.compile(5, NUM), OK);
    }

    /** "Makes the tokens rule r of kind NUM or BOOL." */
    private static void compileBothKinds() {
        for (int r = 0; r < 6; r++) {
            Bench b = new Bench("rule " + r).with(0);
            b.rule(r, NUM, "17");
            b.value(r, 0, 17, 0);
            b.rule(r, BOOL, "1 == 1");
            b.value(r, 0, 1, 0);
            b.rule(r, BOOL, "1 == 2");
            b.value(r, 0, 0, 0);
            for (int other = 0; other < 6; other++) {
                if (other != r) {
                    b.due("eval", b.x.eval(other, 0), REFUSED);
                }
            }
        }
    }

    private static void find(int kind, String text, int finding, int place) {
        new Bench("compile").finding(0, kind, text, finding, place);
    }

    /**
     * "SYNTAX: the tokens are no expr; place: the first token such that no expr begins with the tokens up to it and with it,"
     */
    private static void syntaxAtTheFirstToken() {
        String[] starts = {"1", "it", "v0", "null", "-", "!", "(", "r0", "any0", "all0", "sum0"};
        for (String start : starts) {
            boolean whole = start.equals("1") || start.equals("it") || start.equals("v0") || start.equals("null");
            new Bench("start").finding(0, BOOL, start, whole ? (start.equals("v0") ? BINDING : CLASH) : SYNTAX,
                start.equals("v0") ? 0 : 1);
        }
        String[] noStarts = {".0", "?.5", ")", "?", ":", "||", "&&", "==", "<", "+", "*", "/"};
        for (String start : noStarts) {
            find(NUM, start, SYNTAX, 0);
            find(NUM, start + " 1", SYNTAX, 0);
            find(NUM, "1 + " + start + " 1", SYNTAX, 2);
            find(NUM, "( " + start + " 1 )", SYNTAX, 1);
        }
        // A fault at the last of forty tokens, and at the first of them.
        find(NUM, Bench.times(38, "-") + " 1 1", SYNTAX, 39);
        find(NUM, Bench.times(39, "-") + " )", SYNTAX, 39);
        find(NUM, ") " + Bench.times(38, "-") + " 1", SYNTAX, 0);
        // The first of two faults, and one that would be mended by what comes behind.
        find(NUM, "1 1 ) )", SYNTAX, 1);
        find(NUM, "( 1 ? 2 ) : 3", SYNTAX, 4);
        find(NUM, "sum0 ( it .4 ) : 1", SYNTAX, 4);
    }

    /** "or their number if all pass but more is needed." */
    private static void syntaxMoreNeeded() {
        find(NUM, "", SYNTAX, 0);
        String[] whole = {"1 + 2", "1 == 1 ? 2 : 3", "- ( 1 )", "r0 ( it )", "sum0 ( it .4 : v0 .0 )", "( 1 == 1 ? it : null ) .0"};
        int[][] enough = {{1, 3}, {1, 3, 7}, {4}, {4}, {8}, {9, 10}};
        for (int i = 0; i < whole.length; i++) {
            String[] words = whole[i].split(" ");
            StringBuilder begun = new StringBuilder();
            for (int count = 0; count < words.length; count++) {
                if (!contains(enough[i], count)) {
                    find(NUM, begun.toString(), SYNTAX, count);
                }
                begun.append(words[count]).append(' ');
            }
            find(NUM, whole[i], OK, -1);
        }
        String[] openers = {"-", "!", "("};
        for (String opener : openers) {
            for (int count = 1; count <= 40; count++) {
                find(NUM, Bench.times(count, opener), SYNTAX, count);
            }
        }
        find(NUM, Bench.times(39, "-") + " (", SYNTAX, 40);
        find(NUM, Bench.times(38, "-") + " 1 +", SYNTAX, 40);
    }

    private static boolean contains(int[] some, int n) {
        for (int each : some) {
            if (each == n) {
                return true;
            }
        }
        return false;
    }

    /** "BINDING: the first token that is a VAR outside every body in which it is bound," */
    private static void bindingOfVariables() {
        for (int v = 0; v < 3; v++) {
            String var = "v" + v;
            find(NUM, var + " .0", BINDING, 0);
            find(NUM, "1 + " + var + " .0", BINDING, 2);
            find(NUM, Bench.times(38, "-") + " " + var + " .0", BINDING, 38);
            find(NUM, "r0 ( " + var + " )", BINDING, 2);
            for (String q : QUANTIFIERS) {
                int kind = q.equals("sum") ? NUM : BOOL;
                String head = q + v + " ( it .4 : ", body = kind == NUM ? var + " .0 " : var + " == it ";
                find(kind, head + body + ")", OK, -1);
                find(kind, q + v + " ( " + var + " .4 : " + body + ")", BINDING, 2);
                find(kind, var + " == it && " + head + body + ")", BINDING, 0);
                find(BOOL, head + body + ") == ( " + var + " == it )", BINDING, Bench.countOf(head + body) + 3);
                find(kind, q + (v + 1) % 3 + " ( it .4 : " + body + ")", BINDING, 5);
            }
        }
        // Bound by the outer one inside the inner list and body, and by the inner one in its body alone.
        find(NUM, "sum0 ( it .4 : sum1 ( v0 .4 : v0 .0 + v1 .0 ) + v0 .0 )", OK, -1);
        find(NUM, "sum0 ( it .4 : sum1 ( v1 .4 : 1 ) )", BINDING, 7);
        find(NUM, "sum0 ( it .4 : sum1 ( it .4 : 1 ) + v1 .0 )", BINDING, 13);
        find(NUM, "sum0 ( it .4 : ( ( v0 ) ) .0 + r0 ( v0 ) )", OK, -1);
    }

    /** "or an ANY, ALL, SUM in a body in which its VAR is bound already." */
    private static void bindingTwice() {
        String[] bodies = {"1 == 1", "1 == 1", "1"};
        for (int outer = 0; outer < 3; outer++) {
            for (int inner = 0; inner < 3; inner++) {
                for (int v = 0; v < 3; v++) {
                    int kind = outer == 2 ? NUM : BOOL;
                    String head = QUANTIFIERS[outer] + v + " ( it .4 : " + QUANTIFIERS[inner];
                    boolean likeKinds = (inner == 2) == (outer == 2);
                    String rest = " ( it .4 : " + bodies[inner] + (likeKinds ? " ) )" : outer == 2 ? " ) ? 1 : 2 )" : " ) == 1 )");
                    find(kind, head + v + rest, BINDING, 5);
                    find(kind, head + (v + 1) % 3 + rest, OK, -1);
                    find(kind, head + (v + 2) % 3 + rest, OK, -1);
                }
            }
        }
        // Not the body is the list before the :, nor what comes behind the closing bracket.
        find(NUM, "sum0 ( any0 ( it .4 : v0 == it ) ? it .4 : it .5 : v0 .0 )", OK, -1);
        find(NUM, "sum0 ( it .4 : sum1 ( any0 ( it .4 : v0 == it ) ? it .4 : it .5 : 1 ) )", BINDING, 7);
        find(NUM, "sum0 ( it .4 : 1 ) + sum0 ( it .5 : 1 )", OK, -1);
        find(NUM, "sum0 ( it .4 : sum1 ( it .4 : 1 ) + sum1 ( it .5 : 1 ) ) + sum1 ( it .4 : 1 )", OK, -1);
        find(NUM, "sum0 ( it .4 : sum1 ( it .4 : sum2 ( it .4 : sum0 ( it .4 : 1 ) ) ) )", BINDING, 15);
        find(NUM, "sum0 ( it .4 : sum1 ( it .4 : sum2 ( it .4 : sum2 ( it .4 : 1 ) ) ) )", BINDING, 15);
    }

    private static void bindingFirst() {
        find(NUM, "v1 .0 + v2 .0", BINDING, 0);
        find(NUM, "sum0 ( it .4 : sum0 ( v1 .4 : 1 ) ) + v0 .0", BINDING, 5);
        find(NUM, "sum0 ( v1 .4 : sum0 ( it .4 : 1 ) )", BINDING, 2);
        find(NUM, "sum0 ( it .4 : sum1 ( it .4 : 1 ) ) + v1 .0 + v0 .0", BINDING, 14);
    }

    /** "UNKNOWN: the first RULE token whose rule is not there" */
    private static void unknownRules() {
        for (int callee = 0; callee < 6; callee++) {
            for (int r = 0; r < 6; r++) {
                if (r == callee) {
                    continue;
                }
                Bench b = new Bench("rule " + r + " that calls " + callee);
                b.finding(r, NUM, "r" + callee + " ( it )", UNKNOWN, 0);
                b.finding(r, NUM, "1 + r" + r + " ( it ) - r" + callee + " ( it )", UNKNOWN, 7);
                b.finding(r, NUM, Bench.times(36, "-") + " r" + callee + " ( it )", UNKNOWN, 36);
                b.finding(callee, NUM, "it", CLASH, 1);
                b.finding(r, NUM, "r" + callee + " ( it )", UNKNOWN, 0);
                b.rule(callee, NUM, "1");
                b.rule(r, NUM, "r" + callee + " ( it )");
            }
        }
        find(NUM, "r5 ( it ) + r4 ( it )", UNKNOWN, 0);
        find(NUM, "r0 ( it ) + r1 ( it ) + r2 ( it )", UNKNOWN, 5);
        find(NUM, "sum0 ( r1 ( it ) == 1 ? it .4 : it .5 : r2 ( v0 ) )", UNKNOWN, 2);
    }

    /** "(the rule r itself counts as there, with the kind given)." */
    private static void ownRuleIsThere() {
        for (int r = 0; r < 6; r++) {
            String own = "r" + r + " ( it )";
            new Bench("own rule").finding(r, NUM, own, OK, -1);
            new Bench("own rule").finding(r, BOOL, own, OK, -1);
            new Bench("own rule").finding(r, NUM, own + " + 1", OK, -1);
            new Bench("own rule").finding(r, BOOL, own + " + 1 == 1", CLASH, 4);
            new Bench("own rule").finding(r, BOOL, own + " && 1 == 1", OK, -1);
            new Bench("own rule").finding(r, NUM, own + " && 1 == 1", CLASH, 4);
            // Where nothing came of a compile, the rule isn't there for others.
            Bench b = new Bench("own rule");
            b.finding(r, NUM, own + " + it", CLASH, 4);
            b.finding((r + 1) % 6, NUM, own, UNKNOWN, 0);
        }
    }

    /** "CLASH: the least place at which a demand of the KINDS is not met." */
    private static void clashAtTheLeastPlace() {
        find(NUM, "it + it * it", CLASH, 1);
        find(NUM, "1 + it * it", CLASH, 3);
        find(NUM, "it * it + it", CLASH, 1);
        find(NUM, "- - it", CLASH, 1);
        find(NUM, "- ( it .0 .0 )", CLASH, 4);
        find(BOOL, "- ( 1 == 1 )", CLASH, 0);
        find(NUM, "1 ? it + 1 : 2", CLASH, 1);
        find(NUM, "it + 1 == 1 ? 1 : it", CLASH, 1);
        find(NUM, "1 == 1 ? it + 1 : it", CLASH, 3);
        find(NUM, "1 == 1 ? 1 : it + 1", CLASH, 7);
        find(BOOL, "r0 ( 1 + it )", CLASH, 0);
        find(BOOL, "any0 ( it + 1 : it + 1 )", CLASH, 0);
        find(BOOL, "any0 ( it .4 : it + 1 == 1 )", CLASH, 6);
        find(BOOL, "any0 ( 1 .4 : v0 .0 == 1 )", CLASH, 3);
        find(NUM, "1 + 1 == 1", CLASH, 5);
        find(BOOL, "1 .0 == it", CLASH, 1);
        find(BOOL, "it == 1 .0", CLASH, 1);
        find(BOOL, "1 == 1 .0", CLASH, 3);
        find(NUM, Bench.times(39, "-") + " it", CLASH, 38);
        find(BOOL, Bench.times(39, "-") + " it", CLASH, 38);
        find(BOOL, Bench.times(39, "-") + " 1", CLASH, 40);
    }

    /** "FIXED (place 0): rule r is there with the other kind and another rule has a RULE token for it." */
    private static void fixedByAnother() {
        String[] texts = {"1", "1 == 1"};
        for (int r = 0; r < 6; r++) {
            for (int caller = 0; caller < 6; caller++) {
                for (int kind = NUM; kind <= BOOL; kind++) {
                    Bench b = new Bench("rule " + r + " called by " + caller);
                    int other = NUM + BOOL - kind;
                    b.rule(r, kind, texts[kind - 1]);
                    b.rule(caller, kind, "r" + r + " ( it )");
                    b.type("it it");
                    b.x.compile(r, other);
                    boolean fixed = caller != r;
                    b.finding(r, other, texts[other - 1], fixed ? FIXED : OK, fixed ? 0 : -1);
                    if (fixed) {
                        b.finding(r, kind, texts[kind - 1], OK, -1);
                        b.finding(r, other, "r" + r + " ( it )", FIXED, 0);
                        b.finding(caller, other, texts[other - 1], OK, -1);
                        b.finding(r, other, texts[other - 1], OK, -1);
                    }
                }
            }
        }
    }

    private static void fixedBySeveral() {
        // Wherever the RULE token stands, looked at or not.
        String[] callers = {"1 == 1 ? 0 : r1 ( it )", "1 == 1 || r1 ( it ) == 1 ? 1 : 2", "sum0 ( it .4 : r1 ( v0 ) )",
            "sum0 ( r1 ( it ) == 1 ? it .4 : it .5 : 1 )", Bench.times(36, "-") + " r1 ( it )", "r1 ( it ) + " + Bench.times(34, "-") + " 1",
            "- r0 ( r1 ( it ) == 1 ? it : null )"};
        for (String caller : callers) {
            Bench b = new Bench("called in " + caller);
            b.rule(1, NUM, "5");
            b.rule(0, NUM, caller);
            b.finding(1, BOOL, "1 == 1", FIXED, 0);
            b.rule(0, NUM, "1");
            b.rule(1, BOOL, "1 == 1");
        }
        Bench b = new Bench("called by several");
        b.rule(2, BOOL, "1 == 1");
        int[] several = {0, 1, 3, 4, 5};
        for (int caller : several) {
            b.rule(caller, BOOL, "r2 ( it )");
        }
        for (int caller : several) {
            b.finding(2, NUM, "1", FIXED, 0);
            b.rule(caller, BOOL, "1 == 1");
        }
        b.rule(2, NUM, "1");
    }

    private static void notFixed() {
        Bench b = new Bench("not fixed");
        b.rule(0, NUM, "1");
        b.rule(1, NUM, "r0 ( it )");
        // A caller may change its own kind, and the rule may be replaced by one of the same kind.
        b.rule(1, BOOL, "r0 ( it ) == 1");
        b.rule(0, NUM, "2");
        b.rule(1, NUM, "3");
        // A rule that no other calls any more, and one that calls others.
        b.rule(0, BOOL, "r1 ( it ) == 3");
        b.rule(0, NUM, "r1 ( it )");
        // A compile that found something leaves no RULE token behind.
        b.finding(2, NUM, "r0 ( it ) + it", CLASH, 4);
        b.rule(0, BOOL, "1 == 1");
        // Tokens that wait are no rule.
        b.type("r0 ( it )");
        b.due("compile of waiting tokens", b.x.compile(3, NUM), CLASH);
        b.x.wipe();
        b.rule(0, NUM, "1");
        b.rule(4, NUM, "r1 ( it ) + 0 + 1");
        b.rule(0, BOOL, "1 == 1");
        notFixedByCallsOfOthers();
    }

    private static void notFixedByCallsOfOthers() {
        for (int r = 0; r < 6; r++) {
            for (int callee = 0; callee < 6; callee++) {
                for (int caller = 0; caller < 6; caller++) {
                    if (r == callee || caller == r || caller == callee) {
                        continue;
                    }
                    Bench b = new Bench("rule " + r + " beside a call of " + callee);
                    b.rule(r, NUM, "1");
                    b.rule(callee, NUM, "1");
                    b.rule(caller, NUM, "r" + callee + " ( it )");
                    b.finding(callee, BOOL, "1 == 1", FIXED, 0);
                    b.rule(r, BOOL, "1 == 1");
                }
            }
        }
    }

    /** "Otherwise the first of these findings," */
    private static void firstOfTheFindings() {
        Bench b = new Bench("first finding");
        b.rule(1, NUM, "1");
        b.rule(0, NUM, "r1 ( it )");
        // Each text has the fault of its finding behind faults of all that come later.
        b.finding(1, BOOL, "it + 1 == r4 ( v0 ) )", SYNTAX, 8);
        b.finding(1, BOOL, "it + 1 == r4 ( v0 )", BINDING, 6);
        b.finding(1, BOOL, "it + 1 == r4 ( it )", UNKNOWN, 4);
        b.finding(1, BOOL, "it + 1 == r0 ( it )", CLASH, 1);
        b.finding(1, BOOL, "2 + 1 == r0 ( it )", FIXED, 0);
        b.finding(1, BOOL, "2 + 1", CLASH, 3);
        b.finding(1, BOOL, "v0 .0 == 1 +", SYNTAX, 5);
        b.finding(1, BOOL, "r4 ( it ) +", SYNTAX, 5);
        b.finding(1, BOOL, "it + 1 +", SYNTAX, 4);
        b.finding(1, BOOL, "1 == 1 +", SYNTAX, 4);
        b.finding(1, BOOL, "r4 ( it ) == v0 .0", BINDING, 5);
        b.finding(1, BOOL, "1 == v0 .0", BINDING, 2);
        b.finding(1, BOOL, "1 == r4 ( it )", UNKNOWN, 2);
    }

    /** "and then nothing changes but place():" */
    private static void findingsChangePlaceAlone() {
        String[] texts = {"7 - ( 1", "7 - v0 .0", "7 - r4 ( it )", "7 - it", "7 == 1"};
        int[] findings = {SYNTAX, BINDING, UNKNOWN, CLASH, FIXED};
        int[] places = {4, 2, 2, 1, 0};
        for (int i = 0; i < texts.length; i++) {
            int kind = findings[i] == FIXED ? BOOL : NUM;
            for (int r = 1; r < 3; r++) {
                Bench b = new Bench("after " + texts[i]).with(0);
                b.rule(1, NUM, "41 + 1");
                b.rule(2, NUM, "21");
                b.rule(0, NUM, "r1 ( it ) / r2 ( it )");
                b.value(0, 0, 2, 2);
                b.type(texts[i]);
                for (int again = 0; again < 3; again++) {
                    b.due("compile", b.x.compile(r, kind), findings[i]);
                    b.due("place", b.x.place(), places[i]);
                    b.due("result", b.x.result(), 2);
                    b.due("errorAt", b.x.errorAt(), -1);
                    b.due("used", b.x.used(), 2);
                }
                b.value(1, 0, 42, 0);
                b.value(2, 0, 21, 0);
                b.value(0, 0, 2, 2);
                b.due("no rule came of it", b.x.eval(3, 0), REFUSED);
                b.due("place", b.x.place(), places[i]);
                b.due("tokens", b.x.wipe(), Bench.countOf(texts[i]));
            }
        }
        // The tokens are the same ones, in their order.
        Bench b = new Bench("tokens stay").with(0);
        b.type("9 - ( 4");
        b.due("compile", b.x.compile(0, NUM), SYNTAX);
        b.type("- 1 )");
        b.due("compile", b.x.compile(0, BOOL), CLASH);
        b.due("compile", b.x.compile(0, NUM), OK);
        b.value(0, 0, 6, 0);
        // A rule that wasn't there isn't added.
        b.finding(1, NUM, "it", CLASH, 1);
        b.due("eval", b.x.eval(1, 0), REFUSED);
        b.finding(2, NUM, "r1 ( it )", UNKNOWN, 0);
    }

    /** "Else OK: rule r is replaced or added," */
    private static void okReplacesOrAdds() {
        for (int r = 0; r < 6; r++) {
            Bench b = new Bench("replaced " + r).with(0);
            for (int each = 0; each < 6; each++) {
                b.due("not there yet", b.x.eval(each, 0), REFUSED);
                b.rule(each, NUM, "10 + " + each);
            }
            b.rule(r, NUM, Bench.times(38, "-") + " 3");
            b.value(r, 0, 3, 0);
            b.rule(r, NUM, "4");
            for (int each = 0; each < 6; each++) {
                b.value(each, 0, each == r ? 4 : 10 + each, 0);
            }
        }
        // Forty tokens in every rule beside each other.
        Bench b = new Bench("six long rules").with(0);
        for (int r = 0; r < 6; r++) {
            b.rule(r, NUM, Bench.times(39, "-") + " " + (r + 1));
        }
        for (int r = 0; r < 6; r++) {
            b.value(r, 0, -r - 1, 0);
        }
        b.finding(2, NUM, Bench.times(39, "!") + " 1", CLASH, 38);
        for (int r = 0; r < 6; r++) {
            b.value(r, 0, -r - 1, 0);
        }
        b.rule(0, NUM, "77");
        for (int r = 1; r < 6; r++) {
            b.value(r, 0, -r - 1, 0);
        }
    }

    /** "the tokens are removed, place() becomes -1." */
    private static void okRemovesTokens() {
        for (int count = 1; count <= 40; count++) {
            Bench b = new Bench("OK of " + count);
            b.due("compile of nothing", b.x.compile(0, NUM), SYNTAX);
            b.due("place", b.x.place(), 0);
            b.type(Bench.times(count - 1, "-") + " 1");
            b.due("compile", b.x.compile(0, NUM), OK);
            b.due("place", b.x.place(), -1);
            b.due("wipe", b.x.wipe(), 0);
            b.due("compile of nothing", b.x.compile(0, NUM), SYNTAX);
            b.due("place", b.x.place(), 0);
        }
    }

    /** "The place of the latest compile that was not REFUSED; -1 if that answered OK or there was none." */
    private static void placeOfTheLatest() {
        Bench b = new Bench("place").with(0, 1);
        b.due("none", b.x.place(), -1);
        b.type("1 1");
        b.due("tokens alone", b.x.place(), -1);
        b.due("refused", b.x.compile(-1, NUM), REFUSED);
        b.due("refused alone", b.x.place(), -1);
        String[] texts = {"1 1", "1 + 2 + v1 .0", "1 + r3 ( it )", "1 + 2 + 3 + it", "1 == 1", "1 + ( 2"};
        int[] findings = {SYNTAX, BINDING, UNKNOWN, CLASH, CLASH, SYNTAX};
        int[] places = {1, 4, 2, 5, 3, 4};
        for (int i = 0; i < texts.length; i++) {
            b.x.wipe();
            b.type(texts[i]);
            b.due("compile", b.x.compile(0, NUM), findings[i]);
            b.due("place", b.x.place(), places[i]);
            b.due("place again", b.x.place(), places[i]);
            b.due("refused", b.x.compile(6, NUM), REFUSED);
            b.due("refused", b.x.compile(0, 3), REFUSED);
            b.due("after refused", b.x.place(), places[i]);
            b.x.token(3, 0);
            b.x.wipe();
            b.x.set(0, 0, 1);
            b.x.eval(0, 0);
            b.due("after other calls", b.x.place(), places[i]);
        }
        b.rule(0, NUM, "1 / 0");
        b.due("after OK", b.x.place(), -1);
        b.x.eval(0, 0);
        b.due("after an error", b.x.place(), -1);
        b.type("it it");
        b.due("refused", b.x.compile(0, 0), REFUSED);
        b.due("after OK and refused", b.x.place(), -1);
    }
}
