/** Promises 10 to 14: eval, result, errorAt, used, order and limits. */
public final class EvalTest {
    private static final int NUM = GuardedRules.NUM, BOOL = GuardedRules.BOOL, REFUSED = GuardedRules.REFUSED;
    private static final int NULLERR = GuardedRules.NULLERR, DENIED = GuardedRules.DENIED, DIVIDE = GuardedRules.DIVIDE;
    private static final int DEEP = GuardedRules.DEEP, STOPPED = GuardedRules.STOPPED;
    private static final int MIN = Integer.MIN_VALUE, MAX = Integer.MAX_VALUE;

    public static void main(String[] args) {
        refused();
        arithmetic();
        grouping();
        logic();
        equality();
        choice();
        dot();
        safe();
        policyPlaces();
        firstErrorEnds();
        quantifiers();
        quantifiersStopEarly();
        listsAsValues();
        calls();
        variablesAreOwn();
        errorsInsideCalls();
        deep();
        unitsOfLoops();
        unitsOfCalls();
        lastUnit();
        latestEval();
        refusedChangesNothing();
        Bench.end("EvalTest");
    }

    private static void refused() {
        Bench b = new Bench("promise 10, refused").with(0);
        b.rule(0, NUM, "it .3 .0");
        b.error(0, 0, NULLERR, 2, 0);
        b.rule(5, NUM, "sum0 ( it .4 : 7 )");
        b.x.link(0, 4, 0);
        b.value(5, 0, 7, 1);
        int[][] bad = {{-1, 0}, {6, 0}, {MIN, 0}, {MAX, 0}, {1, 0}, {4, 0}, {0, -1}, {0, 1}, {0, 8}, {0, MIN}, {0, MAX}, {1, 1}};
        for (int[] call : bad) {
            b.due("eval " + call[0] + " " + call[1], b.x.eval(call[0], call[1]), REFUSED);
            b.due("result after REFUSED", b.x.result(), 7);
            b.due("errorAt after REFUSED", b.x.errorAt(), -1);
            b.due("used after REFUSED", b.x.used(), 1);
        }
        b.error(0, 0, NULLERR, 2, 0);
        b.due("eval", b.x.eval(0, 1), REFUSED);
        b.due("errorAt after REFUSED", b.x.errorAt(), 2);
    }

    private static void num(String text, int result) {
        new Bench("num").with(0).yields(NUM, text, result);
    }

    private static void yes(String text) {
        new Bench("bool").with(0).yields(BOOL, text, 1);
    }

    private static void no(String text) {
        new Bench("bool").with(0).yields(BOOL, text, 0);
    }

    private static void arithmetic() {
        num("2147483647 + 1", MIN);
        num("-2147483648 - 1", MAX);
        num("65536 * 65536", 0);
        num("46341 * 46341", 46341 * 46341);
        num("- -2147483648", MIN);
        num("-2147483648 / -1", MIN);
        num("-2147483648 / - 1", MIN);
        num("7 / 2", 3);
        num("-7 / 2", -3);
        num("7 / -2", -3);
        num("- 7 / - 2", 3);
        num("-1 / 2", 0);
        num("0 / 5", 0);
        num("- - 5", 5);
        num("-2147483648", MIN);
        new Bench("divide").with(0).fails(NUM, "1 / 0", DIVIDE, 1);
        new Bench("divide").with(0).fails(NUM, "0 / 0", DIVIDE, 1);
        new Bench("divide").with(0).fails(NUM, "5 + -2147483648 / ( 1 - 1 )", DIVIDE, 3);
        new Bench("divide").with(0).fails(NUM, "8 / 2 / 0", DIVIDE, 3);
        yes("-2147483648 < 2147483647");
        no("2147483647 < -2147483648");
        no("1 < 1");
    }

    private static void grouping() {
        num("10 - 4 - 3", 3);
        num("100 / 10 / 5", 2);
        num("100 / 10 * 5", 50);
        num("2 + 3 * 4", 14);
        num("2 * 3 + 4", 10);
        num("( 2 + 3 ) * 4", 20);
        num("2 - 3 + 4", 3);
        num("- 2 + 3", 1);
        num("- 2 * 3 + 10", 4);
        num("7 - - 2", 9);
        num("- ( 2 + 3 )", -5);
        yes("1 + 1 < 3");
        yes("1 < 2 + 3");
        no("1 == 1 - 1");
        yes("6 == 2 * 3");
        yes("1 < 2 == ( 3 < 4 )");
        no("1 == 1 == ( 1 == 2 )");
        yes("! ( 1 == 2 )");
        no("! ( 1 == 1 ) == ( 1 == 1 )");
        yes("1 == 1 || 1 == 1 && 1 == 2");
        no("( 1 == 1 || 1 == 1 ) && 1 == 2");
        yes("1 == 2 && 1 == 2 || 1 == 1");
        num("1 == 2 ? 1 : 1 == 1 ? 2 : 3", 2);
        num("1 == 1 ? 1 == 2 ? 1 : 2 : 3", 2);
        num("1 == 2 || 1 == 1 ? 4 : 5 + 10", 4);
        num("1 == 2 ? 4 : 5 + 10", 15);
    }

    private static void logic() {
        String[] sides = {"1 == 2", "1 == 1"};
        for (int a = 0; a < 2; a++) {
            for (int b = 0; b < 2; b++) {
                new Bench("and").with(0).yields(BOOL, sides[a] + " && " + sides[b], a & b);
                new Bench("or").with(0).yields(BOOL, sides[a] + " || " + sides[b], a | b);
            }
            new Bench("not").with(0).yields(BOOL, "! ( " + sides[a] + " )", 1 - a);
        }
        no("1 == 2 && 1 / 0 == 1");
        yes("1 == 1 || 1 / 0 == 1");
        no("1 == 2 && 1 / 0 == 1 && 1 / 0 == 1");
        yes("1 == 1 || 1 / 0 == 1 || 1 / 0 == 1");
        yes("1 == 2 && 1 / 0 == 1 || 1 == 1");
        new Bench("and").with(0).fails(BOOL, "1 == 1 && 1 / 0 == 1", DIVIDE, 5);
        new Bench("or").with(0).fails(BOOL, "1 == 2 || 1 / 0 == 1", DIVIDE, 5);
        new Bench("and").with(0).fails(BOOL, "1 / 0 == 1 && 1 == 2", DIVIDE, 1);
    }

    private static void equality() {
        yes("null == null");
        no("it == null");
        no("null == it");
        yes("it == it");
        yes("it .3 == null");
        yes("it .3 == it ?.3");
        Bench b = new Bench("equality").with(0, 0);
        b.x.link(0, 3, 1);
        // Two objects of the same class and the same properties are not the very same.
        b.x.link(1, 3, 1);
        b.yields(BOOL, "it .3 == it", 0);
        b.yields(BOOL, "it .3 == it .3 .3", 1);
        yes("( 1 < 2 ) == ( 3 < 4 )");
        no("( 1 < 2 ) == ( 4 < 3 )");
        yes("( 2 < 1 ) == ( 4 < 3 )");
        yes("-1 == - 1");
        no("-1 == 1");
    }

    private static void choice() {
        num("1 == 1 ? 5 : 1 / 0", 5);
        num("1 == 2 ? 1 / 0 : 6", 6);
        new Bench("choice").with(0).fails(NUM, "1 == 2 ? 5 : 1 / 0", DIVIDE, 7);
        new Bench("choice").with(0).fails(NUM, "1 == 1 ? 1 / 0 : 5", DIVIDE, 5);
        new Bench("choice").with(0).fails(NUM, "1 / 0 == 1 ? 2 : 3", DIVIDE, 1);
        num("( 1 == 1 ? it : null ) .0 + 1", 1);
        num("( 1 == 2 ? it : null ) ?.0 + 1", 1);
        num("1 + ( 1 == 2 ? 10 : 20 ) + ( 1 == 1 ? 300 : 400 )", 321);
        yes("1 == 1 ? 1 == 1 : 1 == 2");
    }

    private static void dot() {
        Bench b = new Bench("dot").with(0, 1);
        b.x.link(0, 3, 1);
        for (int p = 0; p < 3; p++) {
            b.x.set(0, p, p + 10);
            b.x.set(1, p, p + 20);
        }
        b.yields(NUM, "it .0 * 10000 + it .1 * 100 + it .2", 101112);
        b.yields(NUM, "it .3 .0 * 10000 + it .3 .1 * 100 + it .3 .2", 202122);
        b.fails(NUM, "it .3 .3 .0", NULLERR, 3);
        b.fails(NUM, "null .0", NULLERR, 1);
        b.fails(BOOL, "null .3 == null", NULLERR, 1);
        b.fails(NUM, "sum0 ( null .4 : 1 )", NULLERR, 3);
        b.fails(NUM, "sum0 ( null .5 : 1 )", NULLERR, 3);
        b.x.allow(0, 0, false);
        b.x.allow(1, 0, false);
        b.fails(NUM, "null .0", NULLERR, 1);
    }

    private static void safe() {
        Bench b = new Bench("safe").with(0, 1);
        b.x.set(1, 2, 5);
        b.yields(NUM, "null ?.0 + null ?.1 + null ?.2", 0);
        b.yields(BOOL, "null ?.3 == null", 1);
        b.yields(NUM, "sum0 ( null ?.4 : 1 ) + sum0 ( null ?.5 : 1 )", 0);
        b.yields(BOOL, "all0 ( null ?.4 : 1 == 2 ) && ! any0 ( it ?.3 ?.5 : 1 == 1 )", 1);
        b.yields(NUM, "it .3 ?.3 ?.3 ?.2", 0);
        b.fails(NUM, "it ?.3 .2", NULLERR, 2);
        b.x.link(0, 3, 1);
        b.yields(NUM, "it ?.3 ?.2", 5);
        b.x.allow(1, 2, false);
        b.fails(NUM, "it ?.3 ?.2", DENIED, 2);
        b.x.link(0, 3, -1);
        b.yields(NUM, "it ?.3 ?.2", 0);
        b.x.allow(0, 3, false);
        b.fails(NUM, "it ?.3 ?.2", DENIED, 1);
    }

    private static void policyPlaces() {
        Bench b = new Bench("policy").with(0, 1, 2);
        b.x.link(0, 4, 1);
        b.x.link(0, 4, 2);
        b.x.set(1, 0, 4);
        b.x.allow(2, 0, false);
        b.rule(0, NUM, "sum0 ( it .4 : v0 .0 )");
        b.error(0, 0, DENIED, 6, 2);
        b.rule(1, BOOL, "any0 ( it .4 : v0 .0 == 4 )");
        b.value(1, 0, 1, 1);
        b.x.allow(0, 4, false);
        b.error(0, 0, DENIED, 3, 0);
        b.value(0, 1, 0, 0);
        b.x.allow(0, 4, true);
        b.x.allow(2, 0, true);
        b.value(0, 0, 4, 2);
        // The policy is of the class of the object that is read, whoever reads it.
        b.x.link(2, 3, 0);
        b.x.set(0, 1, 6);
        b.x.allow(2, 1, false);
        b.rule(2, NUM, "it .3 .1");
        b.value(2, 2, 6, 0);
    }

    private static void firstErrorEnds() {
        new Bench("first error").with(0).fails(NUM, "1 / 0 + null .0", DIVIDE, 1);
        new Bench("first error").with(0).fails(NUM, "null .0 + 1 / 0", NULLERR, 1);
        new Bench("first error").with(0).fails(NUM, "null .0 / 0", NULLERR, 1);
        new Bench("first error").with(0).fails(NUM, "1 / ( 2 / 0 )", DIVIDE, 4);
        new Bench("first error").with(0).fails(NUM, "1 + 2 * ( 3 - null .1 )", NULLERR, 8);
        new Bench("first error").with(0).fails(BOOL, "null .0 < 1 / 0", NULLERR, 1);
        new Bench("first error").with(0).fails(NUM, "- null .0", NULLERR, 2);
    }

    private static Bench lists() {
        Bench b = new Bench("lists").with(0, 1, 2);
        for (int o = 0; o < 3; o++) {
            b.x.set(o, 0, o + 1);
        }
        b.x.link(0, 4, 1);
        b.x.link(0, 4, 2);
        b.x.link(0, 4, 2);
        b.x.link(1, 4, 0);
        return b;
    }

    private static void quantifiers() {
        Bench b = lists();
        b.rule(0, NUM, "sum1 ( it .4 : v1 .0 )");
        b.value(0, 0, 8, 3);
        b.value(0, 1, 1, 1);
        b.value(0, 2, 0, 0);
        b.rule(1, BOOL, "any2 ( it .4 : v2 .0 == 3 )");
        b.value(1, 0, 1, 2);
        b.value(1, 1, 0, 1);
        b.value(1, 2, 0, 0);
        b.rule(2, BOOL, "all0 ( it .4 : 1 < v0 .0 )");
        b.value(2, 0, 1, 3);
        b.value(2, 1, 0, 1);
        b.value(2, 2, 1, 0);
        b.rule(3, NUM, "sum0 ( it .4 : 2147483647 )");
        b.value(3, 0, MAX + MAX + MAX, 3);
        b.rule(4, NUM, "sum0 ( it .4 : sum1 ( v0 .4 : v1 .0 * 10 + v0 .0 ) )");
        b.value(4, 0, 12, 4);
        b.rule(5, NUM, "5 - sum0 ( it .4 : it .0 ) * 2");
        b.value(5, 0, -1, 3);
    }

    private static void quantifiersStopEarly() {
        Bench b = lists();
        b.rule(0, BOOL, "any0 ( it .4 : 6 / ( 3 - v0 .0 ) == 6 )");
        b.value(0, 0, 1, 1);
        b.rule(0, BOOL, "any0 ( it .4 : 6 / ( 3 - v0 .0 ) == 7 )");
        b.error(0, 0, DIVIDE, 6, 2);
        b.rule(0, BOOL, "all0 ( it .4 : 6 / ( 3 - v0 .0 ) == 7 )");
        b.value(0, 0, 0, 1);
        b.rule(0, BOOL, "all0 ( it .4 : 6 / ( 3 - v0 .0 ) == 6 )");
        b.error(0, 0, DIVIDE, 6, 2);
        b.rule(0, NUM, "sum0 ( it .4 : 6 / ( 3 - v0 .0 ) )");
        b.error(0, 0, DIVIDE, 6, 2);
        b.rule(0, BOOL, "any0 ( it .4 : all1 ( it .4 : v0 == v1 ) || v0 .0 == 3 )");
        b.value(0, 0, 1, 5);
    }

    private static void listsAsValues() {
        Bench b = lists();
        b.rule(0, NUM, "sum0 ( ( it .0 == 1 ? it .4 : it .5 ) : v0 .0 )");
        b.value(0, 0, 8, 3);
        b.value(0, 1, 0, 0);
        b.x.link(1, 5, 2);
        b.value(0, 1, 3, 1);
        b.rule(1, NUM, "sum0 ( it .0 == 1 ? it .4 : null ?.5 : v0 .0 )");
        b.value(1, 0, 8, 3);
        b.value(1, 1, 0, 0);
        b.rule(2, NUM, "sum0 ( any0 ( it .4 : v0 == it ) ? it .5 : it .4 : v0 .0 )");
        b.value(2, 0, 8, 6);
        b.x.link(0, 4, 0);
        b.value(2, 0, 0, 4);
        b.value(1, 0, 9, 4);
    }

    private static void calls() {
        Bench b = lists();
        b.rule(1, NUM, "it .0 * 10");
        b.rule(0, NUM, "r1 ( it ) + r1 ( it ) / 3 - 1");
        b.value(0, 0, 12, 2);
        b.rule(2, NUM, "sum0 ( it .4 : r1 ( v0 ) )");
        b.value(2, 0, 80, 6);
        b.rule(3, BOOL, "it .0 == 3");
        b.rule(4, BOOL, "any0 ( it .4 : r3 ( v0 ) ) && ! r3 ( it )");
        b.value(4, 0, 1, 5);
        b.value(4, 1, 0, 2);
        b.fails(NUM, "1 + r1 ( it .3 )", NULLERR, 2);
        b.due("used", b.x.used(), 0);
        b.fails(NUM, "r1 ( it .3 .3 )", NULLERR, 4);
        b.rule(0, NUM, "r1 ( it ) + r2 ( null )");
        b.error(0, 0, NULLERR, 5, 1);
    }

    private static void variablesAreOwn() {
        Bench b = lists();
        b.rule(1, NUM, "sum0 ( it .4 : v0 .0 )");
        b.rule(0, NUM, "sum0 ( it .4 : r1 ( it ) * 100 + v0 .0 )");
        b.value(0, 0, 2408, 15);
        b.rule(2, NUM, "sum0 ( it .4 : v0 .0 * 1000 + r2 ( v0 ) )");
        b.x.link(1, 4, -1);
        b.x.link(1, 4, 2);
        b.value(2, 0, 11000, 8);
    }

    private static void errorsInsideCalls() {
        Bench b = lists();
        b.rule(1, NUM, "1 + 2 + 3 / ( it .0 - 2 )");
        b.rule(2, NUM, "7 * r1 ( it )");
        b.rule(3, NUM, "2 + 3 * r2 ( it ) + r1 ( it )");
        b.value(1, 0, 0, 0);
        b.error(1, 1, DIVIDE, 5, 0);
        b.error(2, 1, DIVIDE, 2, 1);
        b.error(3, 1, DIVIDE, 4, 2);
        b.rule(4, NUM, "sum0 ( it .4 : r2 ( v0 ) )");
        b.error(4, 0, DIVIDE, 5, 3);
        b.rule(1, NUM, "it .3 .0");
        b.error(3, 0, NULLERR, 4, 2);
        b.x.allow(1, 3, false);
        b.error(3, 1, DENIED, 4, 2);
        b.error(1, 1, DENIED, 1, 0);
        // What was called before and came back leaves no place behind.
        b.rule(1, NUM, "1");
        b.rule(5, NUM, "r1 ( it ) + r1 ( it ) / 0");
        b.error(5, 0, DIVIDE, 9, 2);
    }

    private static void deep() {
        Bench b = new Bench("deep").with(0);
        b.rule(0, NUM, "r0 ( it )");
        b.error(0, 0, DEEP, 0, 4);
        b.rule(0, NUM, "1 + r0 ( it )");
        b.error(0, 0, DEEP, 2, 4);
        b.rule(0, NUM, "it .0 == 0 ? 0 : r0 ( it .3 )");
        b.value(0, 0, 0, 0);
        b.x.set(0, 0, 1);
        b.error(0, 0, NULLERR, 7, 0);
        b.x.link(0, 3, 0);
        b.error(0, 0, DEEP, 7, 4);
        // NULLERR comes before DEEP, and rules that have come back don't count.
        Bench n = new Bench("deep, order").with(0, 0, 0, 0, 0, 0);
        for (int o = 0; o < 4; o++) {
            n.x.link(o, 3, o + 1);
        }
        n.rule(0, NUM, "r0 ( it .3 )");
        n.error(0, 0, NULLERR, 0, 4);
        n.x.link(4, 3, 5);
        n.error(0, 0, DEEP, 0, 4);
        n.rule(1, NUM, "1");
        n.rule(0, NUM, "r1 ( it ) + r1 ( it ) + r1 ( it ) + r1 ( it ) + r1 ( it ) + r1 ( it )");
        n.value(0, 0, 6, 6);
    }

    /** Two objects whose lists 4 hold four objects each. */
    private static Bench fours() {
        Bench b = new Bench("units").with(0, 1);
        for (int i = 0; i < 4; i++) {
            b.x.link(0, 4, i % 2);
            b.x.link(1, 4, 0);
        }
        return b;
    }

    private static void unitsOfLoops() {
        Bench b = fours();
        b.rule(0, NUM, "sum0 ( it .4 : sum1 ( v0 .4 : 1 ) )");
        b.value(0, 0, 16, 20);
        b.rule(1, NUM, "sum0 ( it .4 : sum1 ( v0 .4 : 1 ) ) + sum0 ( it .4 : sum1 ( v0 .4 : 1 ) )");
        b.value(1, 0, 32, 40);
        b.rule(2, NUM, "sum0 ( it .4 : sum1 ( v0 .4 : 1 ) ) + sum0 ( it .4 : sum1 ( v0 .4 : 1 ) ) + sum2 ( it .4 : 1 )");
        b.error(2, 0, STOPPED, 28, 40);
        b.rule(3, NUM, "sum0 ( it .4 : sum1 ( v0 .4 : 1 ) ) + sum0 ( it .4 : sum1 ( v0 .4 : 1 ) ) + sum2 ( it .5 : 1 )");
        b.value(3, 0, 32, 40);
        b.rule(4, NUM, "sum0 ( it .4 : sum1 ( v0 .4 : sum2 ( v1 .4 : 1 ) ) )");
        b.error(4, 0, STOPPED, 10, 40);
    }

    private static void unitsOfCalls() {
        Bench b = fours();
        b.rule(0, NUM, "sum0 ( it .4 : sum1 ( v0 .4 : 1 ) )");
        b.rule(1, NUM, "r0 ( it ) + sum0 ( it .4 : sum1 ( v0 .4 : 1 ) )");
        b.error(1, 0, STOPPED, 10, 40);
        b.rule(2, NUM, "sum0 ( it .4 : 1 ) + r1 ( it )");
        b.error(2, 0, STOPPED, 8, 40);
        b.rule(3, NUM, "r0 ( it ) + 1");
        b.value(3, 0, 17, 21);
        b.value(3, 1, 17, 21);
        b.error(1, 1, STOPPED, 10, 40);
        b.value(0, 0, 16, 20);
    }

    private static void lastUnit() {
        Bench b = fours();
        b.rule(1, NUM, "7");
        b.rule(2, NUM, "sum0 ( it .4 : sum1 ( v0 .4 : 1 ) )");
        b.rule(3, NUM, "r2 ( it ) + sum0 ( it .4 : r1 ( it ) * r1 ( it ) + r1 ( it ) )");
        b.value(3, 0, 240, 37);
        b.rule(4, NUM, "r3 ( it ) + r1 ( it ) + r1 ( it )");
        b.value(4, 0, 254, 40);
        b.rule(4, NUM, "r3 ( it ) + r1 ( it ) + r1 ( it ) + r1 ( it )");
        b.error(4, 0, STOPPED, 15, 40);
        // NULLERR and DEEP come before the unit; an error that needs none is met with none left.
        b.rule(4, NUM, "r3 ( it ) + r1 ( it ) + r1 ( it ) + r1 ( null )");
        b.error(4, 0, NULLERR, 15, 40);
        b.rule(4, NUM, "r3 ( it ) + r1 ( it ) + r1 ( it ) / 0");
        b.error(4, 0, DIVIDE, 14, 40);
        b.rule(4, BOOL, "r3 ( it ) + r1 ( it ) + r1 ( it ) == 0 || any0 ( it .4 : 1 == 1 )");
        b.error(4, 0, STOPPED, 17, 40);
    }

    private static void latestEval() {
        Bench b = fours();
        b.rule(0, NUM, "sum0 ( it .4 : 5 )");
        b.rule(1, NUM, "3 / it .0");
        b.rule(2, BOOL, "it .0 == 0");
        b.value(0, 0, 20, 4);
        b.due("result again", b.x.result(), 20);
        b.due("used again", b.x.used(), 4);
        b.error(1, 0, DIVIDE, 1, 0);
        b.due("result again", b.x.result(), 0);
        b.due("errorAt again", b.x.errorAt(), 1);
        b.value(2, 0, 1, 0);
        b.x.set(0, 0, 3);
        b.due("result isn't changed by set", b.x.result(), 1);
        b.value(2, 0, 0, 0);
        b.value(1, 0, 1, 0);
        b.error(1, 1, DIVIDE, 1, 0);
        b.rule(3, NUM, "9");
        b.x.wipe();
        b.due("errorAt isn't changed by compile", b.x.errorAt(), 1);
        b.value(0, 1, 20, 4);
        b.due("place isn't changed by eval", b.x.place(), -1);
    }

    private static void refusedChangesNothing() {
        Bench b = new Bench("promise 14").with(0, 1);
        b.x.set(0, 0, 3);
        b.x.link(0, 3, 1);
        b.x.link(0, 4, 1);
        b.rule(0, NUM, "it .0 * 100 + sum0 ( it .4 : 10 ) + ( it .3 == null ? 1 : 2 )");
        b.value(0, 0, 312, 1);
        b.type("it");
        b.x.compile(0, NUM);
        b.due("object", b.x.object(3), -1);
        b.due("set", b.x.set(0, 3, 7), false);
        b.due("set", b.x.set(2, 0, 7), false);
        b.due("link", b.x.link(0, 4, 2), false);
        b.due("link", b.x.link(0, 3, -2), false);
        b.due("link", b.x.link(0, 2, -1), false);
        b.due("allow", b.x.allow(0, 6, false), false);
        b.due("token", b.x.token(23, 0), false);
        b.due("token", b.x.token(1, 6), false);
        b.due("compile", b.x.compile(0, 3), REFUSED);
        b.due("eval", b.x.eval(0, 2), REFUSED);
        b.due("result", b.x.result(), 312);
        b.due("used", b.x.used(), 1);
        b.due("errorAt", b.x.errorAt(), -1);
        b.due("place", b.x.place(), 1);
        b.due("wipe", b.x.wipe(), 1);
        b.value(0, 0, 312, 1);
        b.due("next object", b.x.object(2), 2);
    }
}
