/** The edges that "VALUE" names: numbers, null, the policy, lists, rules that call, units and the places of errors. */
public final class EdgesOfValueTest {
    private static final int NUM = GuardedRules.NUM, BOOL = GuardedRules.BOOL;
    private static final int NULLERR = GuardedRules.NULLERR, DENIED = GuardedRules.DENIED, DIVIDE = GuardedRules.DIVIDE;
    private static final int DEEP = GuardedRules.DEEP, STOPPED = GuardedRules.STOPPED, VALUE = GuardedRules.VALUE;
    private static final int MIN = Integer.MIN_VALUE, MAX = Integer.MAX_VALUE;
    private static final int[] INTS = {MIN, MIN + 1, -65536, -46341, -46340, -3, -2, -1, 0, 1, 2, 3, 46340, 46341, 65535, 65536,
        MAX - 1, MAX};

    public static void main(String[] args) {
        leftToRight();
        firstErrorEnds();
        numbersWrap();
        sumsWrap();
        division();
        sameObjects();
        logicLooksAtWhatItNeeds();
        choiceLooksAtOne();
        dotOnNull();
        dotAndPolicy();
        listNow();
        safeOnNull();
        safeOnObject();
        quantifierOrder();
        everyPatternOfFour();
        quantifiersOnNoList();
        unitThenBody();
        callOrder();
        fiveRules();
        rulesThatCameBack();
        ownVariables();
        deepStacks();
        fortyUnitsInLoops();
        fortyUnitsInCalls();
        fortyUnitsTogether();
        placesOfErrors();
        placesInsideCalls();
        lastPlaces();
        Bench.end("EdgesOfValueTest");
    }

    /** Object 0 may not be asked for its property 2; object 1 is in its list 4, twice. */
    private static Bench bench() {
        Bench b = new Bench("value").with(0, 1);
        b.x.allow(0, 2, false);
        b.x.link(0, 4, 1);
        b.x.link(0, 4, 1);
        return b;
    }

    private static void num(String text, int result) {
        bench().yields(NUM, text, result);
    }

    private static void bool(String text, int result) {
        bench().yields(BOOL, text, result);
    }

    private static void fails(int kind, String text, int error, int place, int used) {
        Bench b = bench();
        b.fails(kind, text, error, place);
        b.due("used of " + text, b.x.used(), used);
    }

    /** "VALUE. Evaluated from left to right at an object IT;" */
    private static void leftToRight() {
        String[] ops = {"+", "-", "*", "/"};
        for (String op : ops) {
            fails(NUM, "1 / 0 " + op + " ( null .0 )", DIVIDE, 1, 0);
            fails(NUM, "null .0 " + op + " ( 1 / 0 )", NULLERR, 1, 0);
            fails(NUM, "it .2 " + op + " ( null .0 )", DENIED, 1, 0);
            fails(NUM, "( null .0 ) " + op + " it .2", NULLERR, 2, 0);
        }
        fails(BOOL, "1 / 0 == it .2", DIVIDE, 1, 0);
        fails(BOOL, "it .2 == 1 / 0", DENIED, 1, 0);
        fails(BOOL, "1 / 0 < it .2", DIVIDE, 1, 0);
        fails(BOOL, "it .2 < 1 / 0", DENIED, 1, 0);
        Bench b = new Bench("IT").withEight();
        b.rule(0, NUM, "it .1");
        for (int o = 0; o < 8; o++) {
            b.x.set(o, 1, o * o);
        }
        for (int o = 0; o < 8; o++) {
            b.value(0, o, o * o, 0);
        }
    }

    /** "the first error met ends it." */
    private static void firstErrorEnds() {
        String loop = "sum0 ( it .4 : 1 )";
        fails(NUM, "1 / 0 + " + loop, DIVIDE, 1, 0);
        fails(NUM, loop + " + 1 / 0", DIVIDE, 9, 2);
        fails(NUM, loop + " / 0", DIVIDE, 7, 2);
        fails(NUM, loop + " / 0 + " + loop, DIVIDE, 7, 2);
        fails(NUM, "1 / 0 == 1 ? " + loop + " : " + loop, DIVIDE, 1, 0);
        fails(BOOL, "1 / 0 == 1 || " + loop + " == 2", DIVIDE, 1, 0);
        fails(NUM, "sum1 ( it .4 : 1 / 0 + " + loop + " )", DIVIDE, 6, 1);
        fails(NUM, "- ( 1 / 0 )", DIVIDE, 3, 0);
        fails(BOOL, "! ( 1 / 0 == 1 )", DIVIDE, 3, 0);
        fails(BOOL, "null .3 == null", NULLERR, 1, 0);
    }

    /** "Numbers wrap as ints of 32 bits;" */
    private static void numbersWrap() {
        for (int a : INTS) {
            for (int c : INTS) {
                Bench b = new Bench(a + " and " + c).with(0);
                b.x.set(0, 0, a);
                b.x.set(0, 1, c);
                b.yields(NUM, "it .0 + it .1", (int) ((long) a + c));
                b.yields(NUM, "it .0 - it .1", (int) ((long) a - c));
                b.yields(NUM, "it .0 * it .1", (int) ((long) a * c));
                b.yields(NUM, "- it .0", (int) -(long) a);
                b.yields(BOOL, "it .0 < it .1", (long) a < c ? 1 : 0);
                b.yields(BOOL, "it .0 == it .1", a == c ? 1 : 0);
                b.yields(NUM, a + " + " + c, (int) ((long) a + c));
            }
        }
        num("2147483646 + 1", MAX);
        num("2147483647 + 1", MIN);
        num("-2147483647 - 1", MIN);
        num("-2147483648 - 1", MAX);
        num("- -2147483647", MAX);
        num("- -2147483648", MIN);
        num("1073741824 * 2", MIN);
        num("1073741823 * 2", MAX - 1);
    }

    private static void sumsWrap() {
        int[] ends = {MIN, MAX, -1, 1, 1 << 30};
        for (int n : ends) {
            Bench b = new Bench("sum of " + n).with(0);
            b.x.set(0, 0, n);
            b.rule(0, NUM, "sum0 ( it .4 : v0 .0 )");
            for (int count = 0; count <= 4; count++) {
                b.value(0, 0, (int) ((long) n * count), count);
                b.x.link(0, 4, 0);
            }
        }
    }

    /** "/ cuts off towards zero (-2147483648 / -1 is -2147483648), DIVIDE if the divisor is 0." */
    private static void division() {
        for (int a : INTS) {
            Bench b = new Bench(a + " divided").with(0);
            b.x.set(0, 0, a);
            b.rule(0, NUM, "it .0 / it .1");
            for (int c : INTS) {
                b.x.set(0, 1, c);
                if (c == 0) {
                    b.error(0, 0, DIVIDE, 2, 0);
                } else {
                    b.value(0, 0, (int) ((long) a / c), 0);
                }
            }
        }
        num("7 / 2", 3);
        num("-7 / 2", -3);
        num("7 / -2", -3);
        num("-7 / -2", 3);
        num("-2147483648 / -1", MIN);
        num("-2147483648 / 1", MIN);
        num("-2147483647 / -1", MAX);
        num("0 / 1", 0);
        fails(NUM, "0 / 0", DIVIDE, 1, 0);
        fails(NUM, "-2147483648 / 0", DIVIDE, 1, 0);
        fails(NUM, "1 / ( 2147483647 + 1 + 2147483647 + 1 )", DIVIDE, 1, 0);
    }

    /** "== on objects: the very same, or both null." */
    private static void sameObjects() {
        for (int a = -1; a < 8; a++) {
            Bench b = new Bench("same as " + a).withEight();
            b.rule(0, BOOL, "it .3 == it .3 .3");
            b.rule(1, BOOL, "it .3 == null");
            b.rule(2, BOOL, "null == it ?.3 ?.3");
            b.rule(3, BOOL, "any0 ( it .4 : v0 == it .3 )");
            b.x.link(0, 3, a);
            b.value(1, 0, a < 0 ? 1 : 0, 0);
            for (int c = -1; c < 8; c++) {
                b.x.link(0, 4, -1);
                b.x.link(0, 4, c);
                b.value(3, 0, a == c && c >= 0 ? 1 : 0, c < 0 ? 0 : 1);
                if (a > 0) {
                    b.x.link(a, 3, c);
                    b.value(0, 0, a == c ? 1 : 0, 0);
                    b.value(2, 0, c < 0 ? 1 : 0, 0);
                }
            }
        }
        bool("null == null", 1);
        bool("it == null", 0);
        bool("null == it", 0);
        bool("it .3 == it ?.3", 1);
    }

    /** "a && b: no if a is no (b isn't looked at), else b. a || b likewise." */
    private static void logicLooksAtWhatItNeeds() {
        String[] errors = {"1 / 0 == 1", "it .2 == 1", "null .0 == 1", "r0 ( null )"};
        int[] codes = {DIVIDE, DENIED, NULLERR, NULLERR};
        int[] places = {1, 1, 1, 0};
        for (int i = 0; i < errors.length; i++) {
            bool("1 == 2 && " + errors[i], 0);
            bool("1 == 1 || " + errors[i], 1);
            fails(BOOL, "1 == 1 && " + errors[i], codes[i], 4 + places[i], 0);
            fails(BOOL, "1 == 2 || " + errors[i], codes[i], 4 + places[i], 0);
            fails(BOOL, errors[i] + " && 1 == 2", codes[i], places[i], 0);
            fails(BOOL, errors[i] + " || 1 == 1", codes[i], places[i], 0);
        }
        String loop = "all0 ( it .4 : 1 == 1 )";
        dueUnits("1 == 2 && " + loop, 0, 0);
        dueUnits("1 == 1 && " + loop, 1, 2);
        dueUnits("1 == 1 || " + loop, 1, 0);
        dueUnits("1 == 2 || " + loop, 1, 2);
        for (int a = 1; a < 3; a++) {
            for (int c = 1; c < 3; c++) {
                bool("1 == " + a + " && 1 == " + c, a == 1 && c == 1 ? 1 : 0);
                bool("1 == " + a + " || 1 == " + c, a == 1 || c == 1 ? 1 : 0);
            }
        }
    }

    private static void dueUnits(String text, int result, int used) {
        Bench b = bench();
        b.yields(BOOL, text, result);
        b.due("used of " + text, b.x.used(), used);
    }

    /** "c ? a : b looks at one of a, b alone." */
    private static void choiceLooksAtOne() {
        num("1 == 1 ? 5 : 1 / 0", 5);
        num("1 == 2 ? 1 / 0 : 6", 6);
        fails(NUM, "1 == 1 ? 1 / 0 : 5", DIVIDE, 5, 0);
        fails(NUM, "1 == 2 ? 6 : 1 / 0", DIVIDE, 7, 0);
        num("1 == 1 ? 5 : it .2", 5);
        num("1 == 2 ? it .2 : 6", 6);
        num("( 1 == 1 ? it : null .3 ) .0", 0);
        fails(NUM, "( 1 == 2 ? it : null .3 ) .0", NULLERR, 8, 0);
        String all = "all0 ( it .4 : 1 == 1 )", any = "any0 ( it .4 : 1 == 1 )";
        dueUnits("1 == 1 ? " + all + " : " + any, 1, 2);
        dueUnits("1 == 2 ? " + all + " : " + any, 1, 1);
        dueUnits("any1 ( " + any + " ? it .4 : it .5 : 1 == 2 )", 0, 3);
        dueUnits("any1 ( " + any + " ? it .5 : it .4 : 1 == 2 )", 0, 1);
    }

    /** A text of the kind BOOL that reads property p behind the words, and the place of that reading. */
    private static String reading(String words, String dot, int p) {
        return p < 3 ? words + " " + dot + p + " == 0" : p == 3 ? words + " " + dot + "3 == null"
            : "all0 ( " + words + " " + dot + p + " : 1 == 2 )";
    }

    private static int placeOfReading(String words, int p) {
        return Bench.countOf(words) + (p < 4 ? 0 : 2);
    }

    /** "e DOT p: NULLERR if e is null;" */
    private static void dotOnNull() {
        for (int p = 0; p < 6; p++) {
            for (int closed = 0; closed < 2; closed++) {
                Bench b = new Bench("null DOT " + p).with(0, 1, 2);
                for (int cls = 0; cls < 3; cls++) {
                    // What the policy says of p is of no matter to null.
                    b.x.allow(cls, p, closed == 0 || p == 3);
                }
                b.fails(BOOL, reading("null", ".", p), NULLERR, placeOfReading("null", p));
                b.fails(BOOL, reading("it .3", ".", p), NULLERR, placeOfReading("it .3", p));
                b.fails(BOOL, reading("null ?.3", ".", p), NULLERR, placeOfReading("null ?.3", p));
            }
        }
    }

    /** "else DENIED if the policy doesn't allow p for the class of e; else the property" */
    private static void dotAndPolicy() {
        String[] dots = {".", "?."};
        for (String dot : dots) {
            for (int cls = 0; cls < 3; cls++) {
                for (int p = 0; p < 6; p++) {
                    Bench b = new Bench("class " + cls + ", " + dot + p).with(0, 1, 2);
                    b.rule(0, BOOL, reading("it", dot, p));
                    b.rule(1, BOOL, reading("it .3", dot, p));
                    b.x.allow(cls, p, false);
                    for (int o = 0; o < 3; o++) {
                        boolean denied = o == cls;
                        b.due("eval", b.x.eval(0, o), denied ? DENIED : VALUE);
                        b.due("result", b.x.result(), denied ? 0 : 1);
                        b.due("place", b.x.errorAt(), denied ? placeOfReading("it", p) : -1);
                    }
                    // It is the class of the object that is read, not of the one that leads to it.
                    int leads = (cls + 1) % 3;
                    b.x.link(leads, 3, cls);
                    b.error(1, leads, DENIED, placeOfReading("it .3", p), 0);
                    b.x.allow(cls, p, true);
                    b.value(1, leads, 1, 0);
                }
            }
        }
    }

    /** "(of a LIST: what is in it now)." */
    private static void listNow() {
        Bench b = new Bench("list now").with(0, 1);
        b.rule(0, NUM, "sum0 ( it .4 : v0 .0 )");
        b.x.set(0, 0, 1);
        b.x.set(1, 0, 10);
        b.value(0, 0, 0, 0);
        b.x.link(0, 4, 1);
        b.value(0, 0, 10, 1);
        b.x.link(0, 4, 0);
        b.value(0, 0, 11, 2);
        b.x.set(1, 0, 20);
        b.value(0, 0, 21, 2);
        b.x.link(0, 4, -1);
        b.value(0, 0, 0, 0);
        b.x.link(0, 4, 0);
        b.value(0, 0, 1, 1);
    }

    /** "e SAFE p: if e is null, 0 for NUM, null for OBJ, the empty list for LIST;" */
    private static void safeOnNull() {
        for (int closed = 0; closed < 2; closed++) {
            Bench b = new Bench("null SAFE").with(0, 1, 2);
            for (int i = 0; i < 18; i++) {
                b.x.allow(i % 3, i / 3, closed == 0 || i / 3 == 3);
            }
            for (int p = 0; p < 3; p++) {
                b.yields(NUM, "null ?." + p, 0);
                b.yields(NUM, "it .3 ?." + p, 0);
            }
            b.yields(BOOL, "null ?.3 == null", 1);
            b.yields(BOOL, "null ?.3 ?.3 == it", 0);
            b.fails(NUM, "null ?.3 .0", NULLERR, 2);
            for (int p = 4; p < 6; p++) {
                b.yields(NUM, "sum0 ( null ?." + p + " : 7 )", 0);
                b.due("used", b.x.used(), 0);
                b.yields(BOOL, "any0 ( it .3 ?." + p + " : 1 == 1 )", 0);
                b.yields(BOOL, "all0 ( it .3 ?." + p + " : 1 == 2 )", 1);
            }
        }
    }

    /** "else as DOT." */
    private static void safeOnObject() {
        Bench b = new Bench("SAFE on an object").with(0, 1);
        for (int p = 0; p < 3; p++) {
            b.x.set(0, p, 40 + p);
        }
        b.x.link(0, 3, 1);
        b.x.link(0, 4, 1);
        b.x.link(0, 5, 1);
        b.x.link(0, 5, 1);
        for (int p = 0; p < 3; p++) {
            b.yields(NUM, "it ?." + p, 40 + p);
        }
        b.yields(BOOL, "it ?.3 == null", 0);
        b.yields(NUM, "sum0 ( it ?.4 : 1 ) * 10 + sum0 ( it ?.5 : 1 )", 12);
        b.x.allow(0, 1, false);
        b.fails(NUM, "it ?.1", DENIED, 1);
        b.yields(NUM, "it ?.0", 40);
        b.x.allow(1, 3, false);
        b.fails(NUM, "it ?.3 ?.3 ?.0", DENIED, 2);
    }

    /** "ANY v ( l : b ): the list l; then for its objects in order, VAR v being that object:" */
    private static void quantifierOrder() {
        fails(NUM, "sum0 ( null .4 : 1 / 0 )", NULLERR, 3, 0);
        fails(BOOL, "any0 ( null .5 : 1 / 0 == 1 )", NULLERR, 3, 0);
        fails(BOOL, "all0 ( ( 1 / 0 == 1 ? it .4 : it .5 ) : 1 == 1 )", DIVIDE, 4, 0);
        Bench b = new Bench("in order").with(0, 0, 0, 0, 0);
        int[] order = {3, 1, 4, 2};
        for (int i = 0; i < 4; i++) {
            b.x.link(0, 4, order[i]);
            b.x.set(order[i], 0, order[i] * 10);
        }
        b.rule(0, BOOL, "any0 ( it .4 : v0 .0 == it .1 )");
        b.rule(1, BOOL, "all0 ( it .4 : ! ( v0 .0 == it .1 ) )");
        for (int i = 0; i < 4; i++) {
            b.x.set(0, 1, order[i] * 10);
            b.value(0, 0, 1, i + 1);
            b.value(1, 0, 0, i + 1);
        }
        b.x.set(0, 1, 7);
        b.value(0, 0, 0, 4);
        b.value(1, 0, 1, 4);
        // The units of the list come before those of the body.
        b.rule(2, NUM, "sum0 ( any0 ( it .4 : 1 == 1 ) ? it .4 : it .5 : 1 )");
        b.value(2, 0, 4, 5);
    }

    /**
     * "one UNIT is used up, then b; yes as soon as one is yes, else no. ALL: no as soon as one is no, else yes.
     * SUM: the sum of all."
     */
    private static void everyPatternOfFour() {
        for (int size = 0; size <= 4; size++) {
            Bench b = new Bench("patterns of " + size).with(0, 0);
            b.x.set(1, 0, 1);
            b.rule(0, BOOL, "any0 ( it .4 : v0 .0 == 1 )");
            b.rule(1, BOOL, "all0 ( it .4 : v0 .0 == 1 )");
            b.rule(2, NUM, "sum0 ( it .4 : v0 .0 )");
            for (int pattern = 0; pattern < 1 << size; pattern++) {
                b.x.link(0, 4, -1);
                for (int i = 0; i < size; i++) {
                    b.x.link(0, 4, pattern >> i & 1);
                }
                int firstYes = Math.min(Integer.numberOfTrailingZeros(pattern), size);
                int firstNo = Math.min(Integer.numberOfTrailingZeros(~pattern), size);
                b.value(0, 0, firstYes < size ? 1 : 0, Math.min(firstYes + 1, size));
                b.value(1, 0, firstNo < size ? 0 : 1, Math.min(firstNo + 1, size));
                b.value(2, 0, Integer.bitCount(pattern), size);
            }
        }
    }

    private static void quantifiersOnNoList() {
        // The body isn't looked at, so it cannot fail.
        bool("any0 ( it .5 : 1 / 0 == 1 )", 0);
        bool("all0 ( it .5 : 1 / 0 == 1 )", 1);
        num("sum0 ( it .5 : 1 / 0 )", 0);
        bool("any0 ( null ?.4 : 1 / 0 == 1 )", 0);
        bool("all0 ( null ?.4 : 1 / 0 == 1 )", 1);
        num("sum0 ( null ?.5 : 1 / 0 )", 0);
        fails(NUM, "sum0 ( it .4 : 1 / 0 )", DIVIDE, 6, 1);
    }

    /** Whether the body or the lack of a unit comes first is told by the error. */
    private static void unitThenBody() {
        for (int burnt = 37; burnt <= 40; burnt++) {
            Bench b = bench().fuelled();
            b.rule(2, NUM, Bench.burn(burnt - 1));
            boolean left = burnt < 40;
            b.rule(0, NUM, "r2 ( it ) + sum0 ( it .4 : 1 / 0 )");
            b.error(0, 0, left ? DIVIDE : STOPPED, left ? 11 : 5, left ? burnt + 1 : 40);
            b.rule(0, BOOL, "r2 ( it ) == 1 || any0 ( it .4 : 1 / 0 == 1 )");
            b.error(0, 0, left ? DIVIDE : STOPPED, left ? 13 : 7, left ? burnt + 1 : 40);
            b.rule(0, BOOL, "r2 ( it ) == 1 || all0 ( it .4 : 1 == 2 )");
            if (left) {
                b.value(0, 0, 0, burnt + 1);
            } else {
                b.error(0, 0, STOPPED, 7, 40);
            }
        }
    }

    /** "RULE r ( e ): e; NULLERR if it is null; then DEEP if 5 rules are being evaluated (the outermost is one);" */
    private static void callOrder() {
        Bench b = bench().fuelled();
        b.rule(1, NUM, "1 / 0");
        b.rule(0, NUM, "r1 ( null .3 )");
        b.error(0, 0, NULLERR, 3, 0);
        b.rule(0, NUM, "r1 ( 1 / 0 == 1 ? it : null )");
        b.error(0, 0, DIVIDE, 3, 0);
        b.rule(0, NUM, "r1 ( null )");
        b.error(0, 0, NULLERR, 0, 0);
        b.rule(0, NUM, "4 + r1 ( it .3 )");
        b.error(0, 0, NULLERR, 2, 0);
        b.rule(0, NUM, "4 + r1 ( it )");
        b.error(0, 0, DIVIDE, 2, 1);
        // With no unit left: null and the depth come before the unit, and the unit before the rule.
        b.rule(2, NUM, Bench.burn(39));
        b.rule(0, NUM, "r2 ( it ) + r1 ( null )");
        b.error(0, 0, NULLERR, 5, 40);
        b.rule(0, NUM, "r2 ( it ) + r1 ( it )");
        b.error(0, 0, STOPPED, 5, 40);
        b.rule(2, NUM, Bench.burn(38));
        b.error(0, 0, DIVIDE, 5, 40);
        deepBeforeUnit();
    }

    private static void deepBeforeUnit() {
        Bench b = bench().fuelled();
        b.rule(1, NUM, "r1 ( it )");
        b.rule(0, NUM, "r3 ( it ) + r1 ( it )");
        b.error(0, 0, DEEP, 5, 5);
        b.rule(2, NUM, Bench.burn(34));
        b.rule(0, NUM, "r2 ( it ) + r1 ( it )");
        b.error(0, 0, DEEP, 5, 39);
        b.rule(2, NUM, Bench.burn(35));
        b.error(0, 0, DEEP, 5, 40);
        b.rule(2, NUM, Bench.burn(36));
        b.error(0, 0, STOPPED, 5, 40);
        // At the fifth rule null is NULLERR, an object is DEEP.
        Bench n = new Bench("null or deep").withEight();
        n.rule(0, NUM, "r0 ( it .3 )");
        for (int o = 0; o < 8; o++) {
            n.error(0, 0, o < 5 ? NULLERR : DEEP, 0, Math.min(o, 4));
            n.x.link(o, 3, Math.min(o + 1, 7));
        }
    }

    /** Chains of calls, one rule that calls itself and rules that call the next one: five pass, six are too deep. */
    private static void fiveRules() {
        Bench b = new Bench("chain of objects").withEight();
        for (int o = 0; o < 7; o++) {
            b.x.link(o, 3, o + 1);
        }
        b.rule(0, NUM, "it .3 == null ? 1 : 1 + r0 ( it .3 )");
        for (int o = 7; o >= 0; o--) {
            int rules = 8 - o;
            if (rules <= 5) {
                b.value(0, o, rules, rules - 1);
            } else {
                b.error(0, o, DEEP, 9, 4);
            }
        }
        Bench c = new Bench("chain of rules").with(0);
        c.rule(0, NUM, "1");
        for (int r = 1; r < 6; r++) {
            c.rule(r, NUM, "r" + (r - 1) + " ( it ) + 1");
        }
        for (int r = 0; r < 6; r++) {
            if (r < 5) {
                c.value(r, 0, r + 1, r);
            } else {
                c.error(r, 0, DEEP, 0, 4);
            }
        }
        c.rule(2, NUM, "9");
        c.value(5, 0, 12, 3);
    }

    private static void rulesThatCameBack() {
        Bench b = new Bench("came back").with(0);
        b.rule(5, NUM, "1");
        b.rule(4, NUM, "r5 ( it ) + r5 ( it ) + r5 ( it )");
        b.rule(3, NUM, "r4 ( it ) + r5 ( it ) + r4 ( it )");
        b.rule(2, NUM, "r3 ( it ) + r4 ( it )");
        b.rule(1, NUM, "r5 ( it ) + r2 ( it )");
        b.value(1, 0, 11, 16);
        // The brackets are done with before the rule is entered, so what they call doesn't count.
        b.rule(4, NUM, "r5 ( r5 ( it ) == 1 ? it : null )");
        b.value(1, 0, 5, 13);
        b.rule(5, NUM, "r5 ( it )");
        b.error(1, 0, DEEP, 0, 4);
    }

    /** "then one UNIT is used up; then rule r's value at that object, its VARs being its own." */
    private static void ownVariables() {
        Bench b = new Bench("own variables").with(0, 0, 0, 0, 0);
        for (int o = 0; o < 5; o++) {
            b.x.set(o, 0, o + 1);
            b.x.set(o, 1, (o + 1) * 10);
            b.x.link(o, 4, o);
            b.x.link(o, 5, 4 - o);
        }
        for (int o = 0; o < 4; o++) {
            b.x.link(o, 3, o + 1);
        }
        // Five rules at once, each with three variables; each is asked for again when the inner rules have come back.
        b.rule(0, NUM, "sum0 ( it .4 : sum1 ( it .5 : ( it .3 == null ? 0 : r0 ( it .3 ) ) + v0 .0 + v1 .1 ) )");
        b.value(0, 4, 15, 2);
        b.value(0, 0, 165, 14);
        b.rule(0, NUM, "sum0 ( it .4 : sum1 ( it .5 : sum2 ( it .4 : it .3 == null ? 0 : r0 ( it .3 ) + v0 .0 + v1 .0 * v2 .0 ) ) )");
        b.value(0, 0, 1 + 2 + 3 + 4 + 5 * 1 + 4 * 2 + 3 * 3 + 2 * 4, 19);
        b.rule(1, NUM, "sum0 ( it .4 : it .0 * 1000 )");
        b.rule(2, NUM, "sum0 ( it .4 : v0 .0 + r1 ( it .3 ) + v0 .0 )");
        b.value(2, 0, 2002, 3);
        b.value(2, 3, 5008, 3);
        b.x.link(2, 4, 3);
        b.x.link(2, 4, 4);
        b.rule(3, NUM, "sum0 ( it .4 : v0 .0 * 100 + r1 ( v0 ) )");
        b.value(3, 2, 1200 + 3000 + 3000 + 3000 + 4000 + 5000, 3 + 3 + 3 + 1 + 1);
    }

    /** Values that wait in five rules at once, as many as forty tokens can let wait. */
    private static void deepStacks() {
        Bench b = new Bench("deep stacks").with(0, 0, 0, 0, 0);
        for (int o = 0; o < 4; o++) {
            b.x.link(o, 3, o + 1);
        }
        for (int o = 0; o < 5; o++) {
            b.x.set(o, 0, o);
        }
        String open = "1 + ( 1 + ( 1 + ( 1 + ( 1 + ( 1 + ( 1 + (", close = ") ) ) ) ) ) )";
        b.rule(0, NUM, open + " it .3 == null ? 2 : r0 ( it .3 ) " + close);
        b.value(0, 4, 9, 0);
        b.value(0, 0, 37, 4);
        b.rule(1, NUM, "1 - 2 * ( 3 - 4 * ( 5 - 6 * ( 7 - 8 * ( it .3 == null ? 1 : r1 ( it .3 ) ) ) ) )");
        int due = 1;
        for (int o = 4; o >= 0; o--) {
            due = 1 - 2 * (3 - 4 * (5 - 6 * (7 - 8 * due)));
            b.value(1, o, due, 4 - o);
        }
    }

    /** "An evaluation has 40 UNITS, for the outermost rule and all that it calls;" */
    private static void fortyUnitsInLoops() {
        String[] loops = {"sum0 ( it .4 : 1 )", "( all1 ( it .4 : 1 == 1 ) ? 4 : 0 )", "( any2 ( it .4 : 1 == 2 ) ? 0 : 4 )"};
        int[] places = {5, 6, 6};
        for (int burnt = 34; burnt <= 40; burnt++) {
            for (int i = 0; i < loops.length; i++) {
                for (int size = 0; size <= 4; size++) {
                    Bench b = new Bench(burnt + " burnt, " + size + " to go").with(0).fuelled();
                    for (int k = 0; k < size; k++) {
                        b.x.link(0, 4, 0);
                    }
                    b.rule(2, NUM, Bench.burn(burnt - 1));
                    b.rule(0, NUM, "r2 ( it ) + " + loops[i]);
                    if (burnt + size <= 40) {
                        b.value(0, 0, i == 0 ? size : 4, burnt + size);
                    } else {
                        b.error(0, 0, STOPPED, places[i], 40);
                    }
                }
            }
        }
    }

    /** "where one more would be used up, it ends with STOPPED." */
    private static void fortyUnitsInCalls() {
        for (int burnt = 0; burnt <= 40; burnt++) {
            Bench b = new Bench(burnt + " burnt").with(0).fuelled();
            b.rule(2, NUM, Bench.burn(burnt));
            b.value(2, 0, 0, burnt);
            // The call itself takes one unit more.
            b.rule(1, NUM, "5 + r2 ( it )");
            if (burnt < 40) {
                b.value(1, 0, 5, burnt + 1);
            } else {
                b.error(1, 0, STOPPED, 2, 40);
            }
            b.rule(0, NUM, "r2 ( it ) + r3 ( it ) + 8");
            if (burnt < 39) {
                b.value(0, 0, 8, burnt + 2);
            } else {
                b.error(0, 0, STOPPED, burnt == 39 ? 5 : 0, 40);
            }
            // The next evaluation has its forty again.
            b.value(2, 0, 0, burnt);
        }
    }

    private static void fortyUnitsTogether() {
        Bench b = new Bench("together").with(0).fuelled();
        for (int i = 0; i < 4; i++) {
            b.x.link(0, 4, 0);
        }
        // 4 * (1 + 1 + 8) is 40: units of a loop, of the calls in it and of the loops in those.
        b.rule(1, NUM, "sum0 ( it .4 : 1 ) + sum0 ( it .4 : 1 )");
        b.rule(0, NUM, "sum0 ( it .4 : r1 ( it ) )");
        b.value(0, 0, 32, 40);
        b.rule(1, NUM, "sum0 ( it .4 : 1 ) + sum0 ( it .4 : 1 ) + r3 ( it )");
        b.error(0, 0, STOPPED, 5, 40);
        b.rule(1, NUM, "sum0 ( it .4 : 1 ) + sum0 ( it .4 : 1 )");
        b.rule(0, NUM, "sum0 ( it .4 : r1 ( it ) ) + sum1 ( null ?.4 : 1 )");
        b.value(0, 0, 32, 40);
        b.rule(0, NUM, "sum0 ( it .4 : r1 ( it ) ) + sum1 ( it .4 : 1 )");
        b.error(0, 0, STOPPED, 11, 40);
        b.rule(0, NUM, "sum0 ( it .4 : r1 ( it ) ) / 0");
        b.error(0, 0, DIVIDE, 10, 40);
        b.rule(0, BOOL, "sum0 ( it .4 : r1 ( it ) ) == 32 || r3 ( it ) == 0");
        b.value(0, 0, 1, 40);
        b.rule(0, BOOL, "sum0 ( it .4 : r1 ( it ) ) == 31 || r3 ( it ) == 0");
        b.error(0, 0, STOPPED, 13, 40);
    }

    /**
     * "The place of an error is the token of the outermost rule at which it is met (an operator, DOT, SAFE, the ANY, ALL or
     * SUM that has no unit);"
     */
    private static void placesOfErrors() {
        fails(NUM, "1 + 2 / 0", DIVIDE, 3, 0);
        fails(NUM, "( 1 + 2 ) / ( 3 - 3 )", DIVIDE, 5, 0);
        fails(NUM, "8 / 2 / 0", DIVIDE, 3, 0);
        fails(NUM, "8 / ( 2 / 0 )", DIVIDE, 4, 0);
        fails(NUM, "it .3 .0", NULLERR, 2, 0);
        fails(NUM, "it .3 .3 .0", NULLERR, 2, 0);
        fails(NUM, "it .2", DENIED, 1, 0);
        fails(NUM, "it ?.2", DENIED, 1, 0);
        fails(NUM, "1 + ( it ) ?.2", DENIED, 5, 0);
        fails(NUM, "sum0 ( it .4 : 6 / v0 .0 )", DIVIDE, 6, 1);
        fails(NUM, "sum0 ( it .4 : v0 .3 .0 )", NULLERR, 7, 1);
        Bench b = bench().fuelled();
        String[] heads = {"any", "all", "sum"};
        for (String head : heads) {
            int kind = head.equals("sum") ? NUM : BOOL;
            String body = head.equals("sum") ? "1" : head.equals("any") ? "1 == 2" : "1 == 1";
            b.rule(0, kind, head + "0 ( it .5 : " + head + "1 ( it .5 : " + head + "2 ( it .5 : " + body + " ) ) )");
            b.error(0, 0, STOPPED, 10, 40);
            b.rule(2, NUM, Bench.burn(38));
            b.rule(0, kind, head + "0 ( ( r2 ( it ) == 0 ? it .5 : it .4 ) : " + body + " )");
            // The list has used up 39; the first round takes the last unit, the second has none.
            b.error(0, 0, STOPPED, 0, 40);
        }
    }

    /** "an error inside a called rule has the place of that RULE token in the outermost rule." */
    private static void placesInsideCalls() {
        Bench b = bench().fuelled();
        String[] bad = {"1 / 0", "null .0", "it .2", "r3 ( null )", "r1 ( it )", "sum0 ( it .5 : r5 ( it ) )"};
        int[] errors = {DIVIDE, NULLERR, DENIED, NULLERR, DEEP, STOPPED};
        int[] used = {0, 0, 0, 0, 3, 39};
        for (int i = 0; i < bad.length; i++) {
            b.rule(1, NUM, bad[i]);
            b.rule(0, NUM, "1 + r1 ( it )");
            b.error(0, 0, errors[i], 2, used[i] + 1);
        }
        b.rule(1, NUM, "6 / it .0");
        b.rule(2, NUM, "4 - ( 3 - r1 ( it ) )");
        b.rule(0, NUM, "7 * ( 2 + r2 ( it ) ) + r1 ( it )");
        b.error(1, 0, DIVIDE, 1, 0);
        b.error(2, 0, DIVIDE, 5, 1);
        b.error(0, 0, DIVIDE, 5, 2);
        b.rule(2, NUM, "4");
        b.error(0, 0, DIVIDE, 11, 2);
        b.x.set(0, 0, 2);
        b.value(0, 0, 45, 2);
        b.rule(0, NUM, "r1 ( it ) + r2 ( it ) / 0");
        b.error(0, 0, DIVIDE, 9, 2);
    }

    /** Places of errors at the last tokens of forty. */
    private static void lastPlaces() {
        fails(NUM, Bench.times(38, "-") + " null .0", NULLERR, 39, 0);
        fails(NUM, Bench.times(38, "-") + " it ?.2", DENIED, 39, 0);
        fails(NUM, Bench.times(37, "-") + " 1 / 0", DIVIDE, 38, 0);
        fails(NUM, Bench.times(36, "-") + " r0 ( null )", NULLERR, 36, 0);
        fails(NUM, Bench.times(36, "-") + " r0 ( it )", DEEP, 36, 4);
        Bench b = bench().fuelled();
        b.rule(2, NUM, Bench.burn(39));
        b.rule(0, NUM, "r2 ( it ) + " + Bench.times(28, "-") + " sum0 ( it .4 : 1 )");
        b.error(0, 0, STOPPED, 33, 40);
    }
}
