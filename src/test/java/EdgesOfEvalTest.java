/** The edges that the promises 10 to 13 name, eval, result, errorAt and used, and the 512 calls. */
public final class EdgesOfEvalTest {
    private static final int NUM = GuardedRules.NUM, BOOL = GuardedRules.BOOL, OK = GuardedRules.OK;
    private static final int REFUSED = GuardedRules.REFUSED, VALUE = GuardedRules.VALUE;
    private static final int NULLERR = GuardedRules.NULLERR, DENIED = GuardedRules.DENIED, DIVIDE = GuardedRules.DIVIDE;
    private static final int DEEP = GuardedRules.DEEP, STOPPED = GuardedRules.STOPPED;
    private static final int MIN = Integer.MIN_VALUE, MAX = Integer.MAX_VALUE;

    /** Rules with which eval answers, at object 0 of the bench below, each of its codes in order; rule 0 is VALUE. */
    private static final String[] TEXTS = {"it .1 + sum0 ( it .4 : 3 )", "1 + 2 + it .3 .0", "sum0 ( it .4 : it .2 )", "5 - 1 / 0",
        "- r4 ( it )", "sum0 ( it .4 : sum1 ( it .4 : sum2 ( it .4 : 1 ) ) )"};
    private static final int[] CODES = {VALUE, NULLERR, DENIED, DIVIDE, DEEP, STOPPED};
    private static final int[] RESULTS = {112, 0, 0, 0, 0, 0};
    private static final int[] PLACES = {-1, 6, 6, 3, 1, 10};
    private static final int[] USED = {4, 0, 1, 0, 4, 40};

    public static void main(String[] args) {
        evalOfNoRule();
        evalAtNoObject();
        evalAnswersEachCode();
        evalRefusedChangesNothing();
        resultAtFirst();
        resultOfNumbers();
        resultOfTruths();
        latestOfTwo();
        otherCallsLeaveTheAnswers();
        usedFromNoneToForty();
        usedStartsAnew();
        constants();
        lastOfManyCalls();
        lastOfManyRules();
        Bench.end("EdgesOfEvalTest");
    }

    private static Bench bench() {
        Bench b = new Bench("eval").with(0);
        for (int i = 0; i < 4; i++) {
            b.x.link(0, 4, 0);
        }
        b.x.set(0, 1, 100);
        b.x.allow(0, 2, false);
        for (int r = 0; r < 6; r++) {
            b.rule(r, NUM, TEXTS[r]);
        }
        return b;
    }

    private static void dueAnswer(Bench b, int r) {
        b.due("eval " + r, b.x.eval(r, 0), CODES[r]);
        dueOf(b, r);
    }

    private static void dueOf(Bench b, int r) {
        b.due("result of " + r, b.x.result(), RESULTS[r]);
        b.due("errorAt of " + r, b.x.errorAt(), PLACES[r]);
        b.due("used of " + r, b.x.used(), USED[r]);
    }

    /** "Evaluates rule r at object o: VALUE or the error;" */
    private static void evalAnswersEachCode() {
        Bench b = bench();
        for (int r = 0; r < 6; r++) {
            dueAnswer(b, r);
        }
    }

    /** "REFUSED, changing nothing, if r is no rule" */
    private static void evalOfNoRule() {
        int[] tried = {MIN, -6, -2, -1, 0, 1, 2, 3, 4, 5, 6, 7, 256, MAX};
        for (int there = 0; there < 6; there++) {
            Bench b = new Bench("rule " + there + " alone").with(0);
            for (int r : tried) {
                b.due("eval " + r, b.x.eval(r, 0), REFUSED);
            }
            b.rule(there, NUM, "5");
            for (int r : tried) {
                b.due("eval " + r, b.x.eval(r, 0), r == there ? VALUE : REFUSED);
            }
            // Tokens and findings make no rule.
            b.type("7");
            b.due("eval", b.x.eval((there + 1) % 6, 0), REFUSED);
            b.finding((there + 1) % 6, NUM, "it", GuardedRules.CLASH, 1);
            b.due("eval", b.x.eval((there + 1) % 6, 0), REFUSED);
            b.value(there, 0, 5, 0);
        }
    }

    /** "or o no object." */
    private static void evalAtNoObject() {
        int[] tried = {MIN, -8, -2, -1, 0, 1, 2, 3, 4, 5, 6, 7, 8, 9, 256, MAX};
        Bench b = new Bench("eval at objects");
        b.rule(0, NUM, "5");
        for (int count = 0; count <= 8; count++) {
            for (int o : tried) {
                b.due("eval at " + o + " of " + count, b.x.eval(0, o), o >= 0 && o < count ? VALUE : REFUSED);
            }
            b.x.object(0);
        }
        b.due("no rule, no object", b.x.eval(1, 8), REFUSED);
    }

    private static void evalRefusedChangesNothing() {
        int[][] bad = {{-1, 0}, {6, 0}, {0, -1}, {0, 1}, {5, 8}, {6, -1}, {MIN, MAX}, {MAX, 0}, {0, MIN}};
        for (int r = 0; r < 6; r++) {
            Bench b = bench();
            dueAnswer(b, r);
            for (int[] call : bad) {
                b.due("eval " + call[0] + " " + call[1], b.x.eval(call[0], call[1]), REFUSED);
                dueOf(b, r);
            }
        }
    }

    /** "0 if there was none." "-1 after VALUE or if there was none." */
    private static void resultAtFirst() {
        Bench b = new Bench("none yet").with(0);
        b.rule(0, NUM, "sum0 ( it .4 : 1 ) + 3");
        for (int round = 0; round < 2; round++) {
            b.due("result", b.x.result(), 0);
            b.due("errorAt", b.x.errorAt(), -1);
            b.due("used", b.x.used(), 0);
            b.due("eval", b.x.eval(1, 0), REFUSED);
            b.due("eval", b.x.eval(0, 1), REFUSED);
        }
        b.value(0, 0, 3, 0);
    }

    /** "Of the latest eval that was not REFUSED: after VALUE the number," */
    private static void resultOfNumbers() {
        int[] ints = {MIN, MIN + 1, -2, -1, 0, 1, 2, MAX - 1, MAX};
        Bench b = new Bench("numbers").with(0);
        b.rule(0, NUM, "it .0");
        b.rule(1, NUM, "it .0 / 0");
        for (int n : ints) {
            b.x.set(0, 0, n);
            b.value(0, 0, n, 0);
            b.due("the same again", b.x.result(), n);
            b.error(1, 0, DIVIDE, 2, 0);
        }
    }

    /** "or 1 for yes, 0 for no; else 0." */
    private static void resultOfTruths() {
        String[] yes = {"1 == 1", "1 < 2", "! ( 1 == 2 )", "1 == 1 && 1 == 1", "1 == 2 || 1 == 1", "it == it", "all0 ( it .4 : 1 == 2 )",
            "any0 ( it .5 : 1 == 1 )", "1 == 1 ? 1 == 1 : 1 == 2"};
        String[] no = {"1 == 2", "2 < 2", "! ( 1 == 1 )", "1 == 1 && 1 == 2", "1 == 2 || 1 == 2", "it == null", "any0 ( it .4 : 1 == 1 )",
            "all0 ( it .5 : 1 == 2 )", "1 == 1 ? 1 == 2 : 1 == 1"};
        Bench b = new Bench("truths").with(0);
        b.x.link(0, 5, 0);
        for (int i = 0; i < yes.length; i++) {
            b.yields(BOOL, yes[i], 1);
            b.yields(BOOL, no[i], 0);
        }
        b.rule(1, BOOL, "r0 ( it )");
        b.value(1, 0, 0, 1);
        b.rule(0, BOOL, "1 == 1");
        b.value(1, 0, 1, 1);
    }

    /** "Of the same eval: the place of the error;" "Of the same eval: the UNITS used up (40 after STOPPED);" */
    private static void latestOfTwo() {
        for (int first = 0; first < 6; first++) {
            Bench b = bench();
            for (int second = 0; second < 6; second++) {
                dueAnswer(b, first);
                dueAnswer(b, second);
                dueOf(b, second);
            }
        }
    }

    private static void otherCallsLeaveTheAnswers() {
        for (int r = 0; r < 6; r++) {
            Bench b = bench();
            dueAnswer(b, r);
            b.x.object(1);
            dueOf(b, r);
            b.x.set(0, 1, 7);
            b.x.link(0, 4, -1);
            b.x.link(0, 3, 0);
            dueOf(b, r);
            b.x.allow(0, 2, true);
            dueOf(b, r);
            b.type("9");
            dueOf(b, r);
            b.due("compile", b.x.compile(r, NUM), OK);
            dueOf(b, r);
            b.type("it it");
            b.x.compile(r, NUM);
            dueOf(b, r);
            b.x.wipe();
            b.x.place();
            dueOf(b, r);
            b.value(r, 0, 9, 0);
        }
    }

    private static void usedFromNoneToForty() {
        for (int units = 0; units <= 40; units++) {
            Bench b = new Bench("used " + units).with(0).fuelled();
            b.rule(0, NUM, Bench.burn(units));
            b.value(0, 0, 0, units);
            b.rule(1, NUM, "r0 ( it ) / 0");
            b.error(1, 0, units < 40 ? DIVIDE : STOPPED, units < 40 ? 4 : 0, units < 40 ? units + 1 : 40);
        }
    }

    private static void usedStartsAnew() {
        Bench b = bench();
        for (int round = 0; round < 12; round++) {
            dueAnswer(b, 5);
            dueAnswer(b, 0);
            dueAnswer(b, 4);
        }
    }

    private static void constants() {
        Bench b = new Bench("constants");
        int[] found = {GuardedRules.OK, GuardedRules.SYNTAX, GuardedRules.BINDING, GuardedRules.UNKNOWN, GuardedRules.CLASH,
            GuardedRules.FIXED, GuardedRules.REFUSED, GuardedRules.VALUE, GuardedRules.NULLERR, GuardedRules.DENIED,
            GuardedRules.DIVIDE, GuardedRules.DEEP, GuardedRules.STOPPED, GuardedRules.NUM, GuardedRules.BOOL};
        int[] due = {1, 2, 3, 4, 5, 6, 0, 1, 2, 3, 4, 5, 6, 1, 2};
        for (int i = 0; i < due.length; i++) {
            b.due("constant " + i, found[i], due[i]);
        }
    }

    /**
     * "An object is used for at most 512 calls after it has been made; what later calls answer is free."
     * One method is called over and over; then the last four of the 512 calls must still be right.
     */
    private static void lastOfManyCalls() {
        for (int method = 0; method < 12; method++) {
            Bench b = bench();
            int calls = 0;
            while (b.x.calls() < Counted.CALLS - 4) {
                repeat(b, method, calls);
                calls++;
            }
            b.due("eval", b.x.eval(0, 0), VALUE);
            b.due("result", b.x.result(), method == 1 ? 1000 + calls - 1 + 12 : 112);
            b.due("errorAt", b.x.errorAt(), -1);
            b.due("used", b.x.used(), 4);
            b.due("calls", b.x.calls(), Counted.CALLS);
        }
    }

    /** The call number n of a method; the rules and, but for set, what rule 0 reads stay as they are. */
    private static void repeat(Bench b, int method, int n) {
        switch (method) {
            case 0: b.due("object", b.x.object(2), n < 7 ? n + 1 : -1); break;
            case 1: b.due("set", b.x.set(0, 1, 1000 + n), true); break;
            case 2: b.due("link", b.x.link(0, 5, n % 6 == 5 ? -1 : 0), n % 6 != 4); break;
            case 3: b.due("allow", b.x.allow(1 + n % 2, n % 6, n % 3 == 0), true); break;
            case 4: b.due("token", b.x.token(6, 0), n < 40); break;
            case 5: b.due("wipe", b.x.wipe(), 0); break;
            case 6: b.due("compile", b.x.compile(0, NUM), GuardedRules.SYNTAX); break;
            case 7: b.due("place", b.x.place(), -1); break;
            case 8: b.due("eval", b.x.eval(n % 6, 0), CODES[n % 6]); break;
            case 9: b.due("result", b.x.result(), 0); break;
            case 10: b.due("errorAt", b.x.errorAt(), -1); break;
            default: b.due("used", b.x.used(), 0); break;
        }
    }

    /** Rules are replaced, evaluated and refused up to the last of 512 calls. */
    private static void lastOfManyRules() {
        Bench b = new Bench("many rules").with(0);
        int n = 0;
        while (b.x.calls() + 7 <= Counted.CALLS) {
            int r = n % 6;
            b.due("token", b.x.token(16, n), true);
            b.due("token", b.x.token(0, n), true);
            b.due("compile", b.x.compile(r, NUM), OK);
            b.due("eval", b.x.eval(r, 0), VALUE);
            b.due("result", b.x.result(), -n);
            b.due("compile of nothing", b.x.compile(r, BOOL), GuardedRules.SYNTAX);
            b.due("place", b.x.place(), 0);
            n++;
        }
        while (b.x.calls() < Counted.CALLS) {
            b.due("result", b.x.result(), 1 - n);
        }
    }
}
