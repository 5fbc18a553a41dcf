/** Promises 8 and 9: compile, place. */
public final class CompileTest {
    private static final int NUM = GuardedRules.NUM, BOOL = GuardedRules.BOOL;
    private static final int OK = GuardedRules.OK, SYNTAX = GuardedRules.SYNTAX, BINDING = GuardedRules.BINDING;
    private static final int UNKNOWN = GuardedRules.UNKNOWN, CLASH = GuardedRules.CLASH, FIXED = GuardedRules.FIXED;
    private static final int REFUSED = GuardedRules.REFUSED;
    private static final int MIN = Integer.MIN_VALUE, MAX = Integer.MAX_VALUE;

    public static void main(String[] args) {
        refused();
        syntaxAtToken();
        syntaxMoreNeeded();
        syntaxPasses();
        binding();
        unknown();
        clashOfOperators();
        clashOfOthers();
        clashAtTheLeastPlace();
        kindsThatPass();
        fixed();
        orderOfFindings();
        findingsChangeNothing();
        replacing();
        Bench.end("CompileTest");
    }

    private static void find(int kind, String text, int finding, int place) {
        new Bench("compile").finding(0, kind, text, finding, place);
    }

    private static void refused() {
        Bench b = new Bench("promise 8, refused");
        b.type("it");
        b.due("compile", b.x.compile(0, NUM), CLASH);
        int[][] bad = {{-1, 1}, {6, 1}, {MIN, 1}, {MAX, 2}, {0, 0}, {0, 3}, {0, 4}, {0, -1}, {0, MIN}, {0, MAX}, {6, 3}};
        for (int[] call : bad) {
            b.due("compile " + call[0] + " " + call[1], b.x.compile(call[0], call[1]), REFUSED);
            b.due("place after REFUSED", b.x.place(), 1);
        }
        b.due("tokens after REFUSED", b.x.wipe(), 1);
        Bench none = new Bench("promise 9, none yet");
        none.due("compile", none.x.compile(6, 1), REFUSED);
        none.due("place", none.x.place(), -1);
        none.type("1");
        none.due("compile", none.x.compile(5, 3), REFUSED);
        none.due("compile", none.x.compile(5, NUM), OK);
        none.due("place", none.x.place(), -1);
    }

    private static void syntaxAtToken() {
        find(NUM, ")", SYNTAX, 0);
        find(NUM, ":", SYNTAX, 0);
        find(NUM, "?", SYNTAX, 0);
        find(NUM, ".0", SYNTAX, 0);
        find(NUM, "?.0", SYNTAX, 0);
        String[] binary = {"||", "&&", "==", "<", "+", "*", "/"};
        for (String op : binary) {
            find(NUM, op + " 1", SYNTAX, 0);
            find(NUM, "1 " + op + " " + op + " 1", SYNTAX, 2);
            find(NUM, "( " + op, SYNTAX, 1);
            find(NUM, "1 " + op + " )", SYNTAX, 2);
        }
        find(NUM, "1 1", SYNTAX, 1);
        find(NUM, "it v0", SYNTAX, 1);
        find(NUM, "1 ( 2 )", SYNTAX, 1);
        find(NUM, "1 ! 2", SYNTAX, 1);
        find(NUM, "it null", SYNTAX, 1);
        find(NUM, "it r0 ( it )", SYNTAX, 1);
        find(NUM, "it any0 ( it : it )", SYNTAX, 1);
        find(NUM, "1 )", SYNTAX, 1);
        find(NUM, "1 :", SYNTAX, 1);
        find(NUM, "( )", SYNTAX, 1);
        find(NUM, "( 1 : 2 )", SYNTAX, 2);
        find(NUM, "( 1 ) )", SYNTAX, 3);
        find(NUM, "1 + .0", SYNTAX, 2);
        find(NUM, "- .0", SYNTAX, 1);
        find(NUM, "r0 it", SYNTAX, 1);
        find(NUM, "r0 .0", SYNTAX, 1);
        find(NUM, "r0 ( )", SYNTAX, 2);
        find(NUM, "r0 ( it : it )", SYNTAX, 3);
        find(NUM, "any0 it", SYNTAX, 1);
        find(NUM, "all1 ( )", SYNTAX, 2);
        find(NUM, "sum2 ( it .4 )", SYNTAX, 4);
        find(NUM, "sum0 ( it .4 : )", SYNTAX, 5);
        find(NUM, "sum0 ( it .4 : 1 : 2 )", SYNTAX, 6);
        find(NUM, "sum0 ( : 1 )", SYNTAX, 2);
        find(NUM, "1 ? 2 )", SYNTAX, 3);
        find(NUM, "( 1 ? 2 )", SYNTAX, 4);
        find(NUM, "1 ? : 2", SYNTAX, 2);
        find(NUM, "1 ? 2 : 3 : 4", SYNTAX, 5);
        find(NUM, "1 ? 2 : )", SYNTAX, 4);
        find(NUM, "sum0 ( 1 ? 2 : 3 )", SYNTAX, 7);
        find(NUM, "sum0 ( 1 ? 2 )", SYNTAX, 5);
        find(NUM, "sum0 ( 1 : 1 ? 2 )", SYNTAX, 7);
        find(NUM, "r0 ( 1 ? 2 )", SYNTAX, 5);
    }

    private static void syntaxMoreNeeded() {
        find(NUM, "", SYNTAX, 0);
        find(NUM, "-", SYNTAX, 1);
        find(NUM, "! ! -", SYNTAX, 3);
        find(NUM, "(", SYNTAX, 1);
        find(NUM, "( 1", SYNTAX, 2);
        find(NUM, "1 +", SYNTAX, 2);
        find(NUM, "1 ?", SYNTAX, 2);
        find(NUM, "1 ? 2", SYNTAX, 3);
        find(NUM, "1 ? 2 :", SYNTAX, 4);
        find(NUM, "1 ? 2 ? 3 : 4", SYNTAX, 7);
        find(NUM, "r0", SYNTAX, 1);
        find(NUM, "r0 (", SYNTAX, 2);
        find(NUM, "r0 ( it", SYNTAX, 3);
        find(NUM, "any0", SYNTAX, 1);
        find(NUM, "any0 ( it .4", SYNTAX, 4);
        find(NUM, "any0 ( it .4 : 1", SYNTAX, 6);
        find(NUM, "any0 ( 1 ? 2 : 3 :", SYNTAX, 8);
        Bench b = new Bench("promise 8, forty tokens that need more");
        for (int i = 0; i < 40; i++) {
            b.due("token", b.x.token(6, 0), true);
        }
        b.due("compile", b.x.compile(0, NUM), SYNTAX);
        b.due("place", b.x.place(), 40);
    }

    private static void syntaxPasses() {
        find(NUM, "- - 1 - - 2 * - 3", OK, -1);
        find(BOOL, "! ! ( 1 < 2 ) && ! ( 2 == 3 ) || null == it", OK, -1);
        find(NUM, "( ( ( 1 ) ) )", OK, -1);
        find(NUM, "1 < 2 ? 3 < 4 ? 5 : 6 : 7 < 8 ? 9 : 10", OK, -1);
        find(NUM, "sum0 ( 1 < 2 ? it .4 : it .5 : 1 < 2 ? v0 .0 : 4 )", OK, -1);
        find(NUM, "( it ) .3 ?.3 .3 .0", OK, -1);
        find(NUM, "( 1 < 2 ? it : null ) ?.2", OK, -1);
        find(BOOL, "any0 ( it .4 : all1 ( v0 .5 : sum2 ( v1 .4 : v2 .0 ) < 3 ) )", OK, -1);
    }

    private static void binding() {
        find(NUM, "v0 .0", BINDING, 0);
        find(NUM, "1 + v2 .0", BINDING, 2);
        find(NUM, "sum0 ( v0 .4 : v0 .0 )", BINDING, 2);
        find(NUM, "sum0 ( it .4 : v1 .0 )", BINDING, 5);
        find(NUM, "sum0 ( it .4 : v0 .0 ) + v0 .0", BINDING, 9);
        find(NUM, "sum0 ( it .4 : sum0 ( v0 .4 : 1 ) )", BINDING, 5);
        find(NUM, "sum0 ( it .4 : sum1 ( v0 .4 : sum0 ( it .5 : 1 ) ) )", BINDING, 10);
        find(NUM, "sum0 ( it .4 : sum1 ( v1 .4 : 1 ) )", BINDING, 7);
        find(NUM, "sum0 ( it .4 : sum1 ( v0 .4 : v2 .0 ) )", BINDING, 10);
        find(NUM, "sum0 ( it .4 : sum1 ( v0 .4 : v1 .0 ) + v1 .0 )", BINDING, 14);
        find(BOOL, "any0 ( it .4 : all0 ( it .4 : v2 == it ) )", BINDING, 5);
        find(NUM, "r0 ( v0 )", BINDING, 2);
        // The list before the : isn't the body: the same VAR may be bound there, and side by side.
        find(NUM, "sum0 ( any0 ( it .4 : v0 == it ) ? it .4 : it .5 : v0 .0 )", OK, -1);
        find(NUM, "sum0 ( it .4 : v0 .0 ) + sum0 ( it .5 : v0 .0 )", OK, -1);
        find(NUM, "sum0 ( it .4 : ( 1 < 2 ? v0 : it ) .0 + v0 .1 )", OK, -1);
        find(NUM, "sum0 ( it .4 : r0 ( v0 ) + v0 .0 )", OK, -1);
        find(NUM, "sum2 ( it .4 : sum1 ( v2 .4 : sum0 ( v1 .4 : v2 .0 + v1 .0 + v0 .0 ) ) )", OK, -1);
    }

    private static void unknown() {
        find(NUM, "r3 ( it )", UNKNOWN, 0);
        find(NUM, "r0 ( it )", OK, -1);
        find(NUM, "r0 ( it ) + r5 ( it ) + r4 ( it )", UNKNOWN, 5);
        find(NUM, "sum0 ( it .4 : r1 ( v0 ) )", UNKNOWN, 5);
        Bench b = new Bench("promise 8, unknown");
        b.rule(1, NUM, "1");
        b.finding(0, NUM, "r1 ( it ) + r2 ( it )", UNKNOWN, 5);
        b.finding(2, NUM, "r1 ( it ) + r0 ( it )", UNKNOWN, 5);
        b.rule(2, NUM, "r1 ( it ) + r2 ( it )");
        b.rule(0, NUM, "r1 ( it ) + r2 ( it )");
        // Where a compile found something, the rule isn't there.
        b.finding(3, NUM, "it", CLASH, 1);
        b.finding(4, NUM, "r3 ( it )", UNKNOWN, 0);
    }

    private static void clashOfOperators() {
        String[] operands = {"1", "1 < 2", "it", "it .4"};
        String[] ops = {"+", "-", "*", "/", "<", "||", "&&", "=="};
        for (String op : ops) {
            for (int left = 0; left < 4; left++) {
                for (int right = 0; right < 4; right++) {
                    clashOf(op, left, right, operands);
                }
            }
        }
        for (int k = 0; k < 4; k++) {
            find(NUM, "- ( " + operands[k] + " )", k == 0 ? OK : CLASH, k == 0 ? -1 : 0);
            find(BOOL, "! ( " + operands[k] + " )", k == 1 ? OK : CLASH, k == 1 ? -1 : 0);
        }
    }

    private static void clashOf(String op, int left, int right, String[] operands) {
        boolean arithmetic = "+-*/".contains(op);
        boolean logical = op.equals("||") || op.equals("&&");
        boolean fits = op.equals("==") ? left == right && left != 3 : left == right && left == (logical ? 1 : 0);
        String before = "( " + operands[left] + " )";
        String text = before + " " + op + " ( " + operands[right] + " )";
        find(arithmetic ? NUM : BOOL, text, fits ? OK : CLASH, fits ? -1 : before.split(" ").length);
    }

    private static void clashOfOthers() {
        find(NUM, "1 ? 2 : 3", CLASH, 1);
        find(NUM, "it ? 2 : 3", CLASH, 1);
        find(NUM, "it .4 ? 2 : 3", CLASH, 2);
        find(NUM, "1 < 2 ? 3 : it", CLASH, 3);
        find(NUM, "1 < 2 ? 3 : 4 < 5", CLASH, 3);
        find(NUM, "( 1 < 2 ? it .4 : it ) == null ? 3 : 4", CLASH, 4);
        find(NUM, "1 .0", CLASH, 1);
        find(NUM, "( 1 < 2 ) ?.0", CLASH, 5);
        find(NUM, "it .4 .0", CLASH, 2);
        find(NUM, "it .0 .0", CLASH, 2);
        find(NUM, "it ?.5 ?.0", CLASH, 2);
        find(NUM, "r0 ( 1 )", CLASH, 0);
        find(NUM, "r0 ( 1 < 2 )", CLASH, 0);
        find(NUM, "r0 ( it .4 )", CLASH, 0);
        find(NUM, "r0 ( null )", OK, -1);
        find(NUM, "1 + r0 ( it .0 )", CLASH, 2);
        find(NUM, "sum0 ( it : 1 )", CLASH, 0);
        find(NUM, "sum0 ( 1 : 1 )", CLASH, 0);
        find(BOOL, "any0 ( 1 < 2 : 1 < 2 )", CLASH, 0);
        find(NUM, "sum0 ( it .4 : v0 )", CLASH, 0);
        find(NUM, "sum0 ( it .4 : 1 < 2 )", CLASH, 0);
        find(NUM, "sum0 ( it .4 : it .4 )", CLASH, 0);
        find(BOOL, "any0 ( it .4 : 1 )", CLASH, 0);
        find(BOOL, "all0 ( it .4 : v0 )", CLASH, 0);
        find(BOOL, "! all0 ( it .4 : v0 .5 )", CLASH, 1);
        find(NUM, "1 < 2", CLASH, 3);
        find(BOOL, "1", CLASH, 1);
        find(NUM, "it", CLASH, 1);
        find(BOOL, "null", CLASH, 1);
        find(NUM, "it .4", CLASH, 2);
        find(BOOL, "it .3", CLASH, 2);
        find(NUM, "any0 ( it .4 : v0 == it )", CLASH, 9);
        find(BOOL, "sum0 ( it .4 : 1 )", CLASH, 7);
        find(BOOL, "1 < 2 < 3", CLASH, 3);
        find(BOOL, "1 == 2 == 3", CLASH, 3);
        find(BOOL, "1 == 2 == ( 3 == 4 )", OK, -1);
    }

    private static void clashAtTheLeastPlace() {
        find(BOOL, "( it + 1 ) + ( it + 1 )", CLASH, 2);
        find(BOOL, "! ( it + 1 )", CLASH, 0);
        find(BOOL, "1 || ( it + 1 < 2 )", CLASH, 1);
        find(BOOL, "1 || it .0 .0", CLASH, 1);
        find(BOOL, "it .0 .0 || 1", CLASH, 2);
        find(BOOL, "- it .0 .0 == 1", CLASH, 3);
        find(BOOL, "sum0 ( it + 1 : 1 ) == it", CLASH, 0);
        find(BOOL, "sum0 ( it .4 : it + 1 ) == it", CLASH, 6);
        find(NUM, "1 ? it + 2 : null", CLASH, 1);
        find(NUM, "it + 1 ? 2 : 3", CLASH, 1);
        find(BOOL, "r0 ( it + 1 )", CLASH, 0);
        find(NUM, "1 * 2 + it * 3", CLASH, 5);
        find(BOOL, "1 + 2 && it * 3", CLASH, 3);
    }

    private static void kindsThatPass() {
        find(BOOL, "it == null", OK, -1);
        find(BOOL, "( 1 < 2 ) == ( 2 < 3 )", OK, -1);
        find(BOOL, "it .0 == it ?.1", OK, -1);
        find(BOOL, "it .3 == it ?.3", OK, -1);
        find(NUM, "sum0 ( null ?.4 : 1 )", OK, -1);
        find(NUM, "sum0 ( ( 1 < 2 ? it .4 : it .5 ) : 1 )", OK, -1);
        find(NUM, "null .0", OK, -1);
        find(BOOL, "r0 ( it ) && r0 ( it )", OK, -1);
        find(NUM, "r0 ( it ) && r0 ( it )", CLASH, 4);
        Bench b = new Bench("promise 8, kinds of rules");
        b.rule(1, NUM, "1");
        b.rule(2, BOOL, "1 < 2");
        b.rule(3, NUM, "r2 ( it ) ? r1 ( it ) : 0");
        b.finding(3, NUM, "r1 ( it ) ? r1 ( it ) : 0", CLASH, 4);
        b.finding(3, NUM, "r2 ( it ) + 1", CLASH, 4);
        b.finding(3, BOOL, "r2 ( it ) == r1 ( it )", CLASH, 4);
    }

    private static void fixed() {
        Bench b = new Bench("promise 8, fixed");
        b.rule(1, NUM, "1");
        b.rule(0, NUM, "r1 ( it )");
        b.finding(1, BOOL, "1 < 2", FIXED, 0);
        b.rule(1, NUM, "2");
        b.finding(1, BOOL, "1 < 2", FIXED, 0);
        b.rule(0, BOOL, "r1 ( it ) < 2");
        b.finding(1, BOOL, "1 < 2", FIXED, 0);
        b.rule(0, NUM, "7");
        b.rule(1, BOOL, "1 < 2");
        b.rule(1, NUM, "2");

        Bench self = new Bench("promise 8, a rule's own RULE token doesn't fix it");
        self.rule(2, NUM, "r2 ( it )");
        self.rule(2, BOOL, "r2 ( it ) && 1 < 2");
        self.rule(2, NUM, "r2 ( it ) + 1");
        self.rule(3, NUM, "r3 ( it )");
        self.rule(2, BOOL, "1 < 2");
        self.rule(4, NUM, "r4 ( it ) + 1");
        self.rule(5, NUM, "1 < 2 || r2 ( it ) ? 1 : 0");
        self.finding(2, NUM, "1", FIXED, 0);
        self.rule(4, BOOL, "1 < 2");
    }

    private static void orderOfFindings() {
        find(NUM, "v0 + it 1", SYNTAX, 3);
        find(NUM, "r1 ( it ) + v0", BINDING, 5);
        find(NUM, "1 + it + r1 ( it )", UNKNOWN, 4);
        find(BOOL, "r1 ( v0 ) +", SYNTAX, 5);
        Bench b = new Bench("promise 8, order");
        b.rule(1, NUM, "1");
        b.rule(0, NUM, "r1 ( it )");
        b.finding(1, BOOL, "1", CLASH, 1);
        b.finding(1, BOOL, "r2 ( it ) == 1", UNKNOWN, 0);
        b.finding(1, BOOL, "v1 == it", BINDING, 0);
        b.finding(1, BOOL, "v1 ==", SYNTAX, 2);
        b.finding(1, BOOL, "1 == 1", FIXED, 0);
    }

    private static void findingsChangeNothing() {
        Bench b = new Bench("promise 8, findings change nothing").with(0);
        b.rule(1, NUM, "41 + 1");
        b.rule(0, NUM, "r1 ( it ) - 2");
        b.value(0, 0, 40, 1);
        String[] texts = {"1 +", "v0 .0", "r5 ( it )", "it", "1 < 2"};
        int[] findings = {SYNTAX, BINDING, UNKNOWN, CLASH, FIXED};
        int[] places = {2, 0, 0, 1, 0};
        for (int i = 0; i < texts.length; i++) {
            b.finding(1, BOOL, texts[i], findings[i], places[i]);
            b.due("result of the eval before", b.x.result(), 40);
            b.due("used of the eval before", b.x.used(), 1);
            b.value(1, 0, 42, 0);
            b.value(0, 0, 40, 1);
        }
        b.type("1");
        b.x.compile(0, BOOL);
        b.type("< 2");
        b.due("tokens go on after a finding", b.x.compile(0, BOOL), OK);
        b.due("place", b.x.place(), -1);
        b.value(0, 0, 1, 0);
    }

    private static void replacing() {
        Bench b = new Bench("promise 8, replacing").with(0);
        for (int r = 0; r < 6; r++) {
            b.rule(r, NUM, "" + (r + 10));
        }
        for (int r = 0; r < 6; r++) {
            b.value(r, 0, r + 10, 0);
        }
        b.rule(0, NUM, "r5 ( it ) * 2");
        b.value(0, 0, 30, 1);
        b.rule(5, NUM, "1 + 2 + 3 + 4");
        b.value(0, 0, 20, 1);
        b.rule(5, NUM, "9");
        b.value(0, 0, 18, 1);
        b.value(4, 0, 14, 0);
    }
}
