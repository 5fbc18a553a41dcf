/** The edges that "Terms" names for objects, tokens, the grammar and the bodies of ANY, ALL, SUM. */
public final class EdgesOfTermsTest {
    private static final int NUM = GuardedRules.NUM, BOOL = GuardedRules.BOOL;
    private static final int OK = GuardedRules.OK, SYNTAX = GuardedRules.SYNTAX, BINDING = GuardedRules.BINDING;
    private static final int NULLERR = GuardedRules.NULLERR, STOPPED = GuardedRules.STOPPED, DENIED = GuardedRules.DENIED;
    private static final int MIN = Integer.MIN_VALUE, MAX = Integer.MAX_VALUE;
    private static final String[] QUANTIFIERS = {"any", "all", "sum"};

    public static void main(String[] args) {
        numbersAndClasses();
        numbersOfObjects();
        linkOfObjects();
        listsEmptyAtFirst();
        listsUpToFour();
        listsInOrder();
        valuesNotLookedAt();
        rangesOfValues();
        endsOfRangesInUse();
        exprOnceOrNot();
        repetitionsAnyNumberOfTimes();
        unaryAndNavigation();
        minusOfOneSideOrTwo();
        primaries();
        groupToTheLeft();
        bodies();
        Bench.end("EdgesOfTermsTest");
    }

    /** "OBJECTS have numbers 0.. in the order in which they are made and a class 0..2." */
    private static void numbersAndClasses() {
        for (int closed = 0; closed < 3; closed++) {
            Bench b = new Bench("classes").withEight();
            b.x.allow(closed, 0, false);
            b.rule(0, NUM, "it .0");
            for (int o = 0; o < 8; o++) {
                b.due("class of object " + o, b.x.eval(0, o), o % 3 == closed ? DENIED : GuardedRules.VALUE);
            }
        }
        Bench b = new Bench("numbers");
        int[] classes = {2, -1, 2, 3, 0, MIN, 1, MAX, 0};
        int[] numbers = {0, -1, 1, -1, 2, -1, 3, -1, 4};
        for (int i = 0; i < classes.length; i++) {
            b.due("object(" + classes[i] + ")", b.x.object(classes[i]), numbers[i]);
        }
    }

    /** "Every object has the properties 0, 1, 2 (NUM: an int, 0 at first)," */
    private static void numbersOfObjects() {
        int[] ints = {MIN, MAX, -1, 1, MIN + 1, MAX - 1, 65536, -32769};
        for (int p = 0; p < 3; p++) {
            Bench b = new Bench("property " + p).withEight();
            for (int q = 0; q < 3; q++) {
                b.rule(q, NUM, "it ." + q);
            }
            for (int o = 0; o < 8; o++) {
                b.due("at first", b.x.eval(p, o) == GuardedRules.VALUE && b.x.result() == 0, true);
            }
            for (int o = 0; o < 8; o++) {
                b.due("set", b.x.set(o, p, ints[o]), true);
            }
            for (int o = 0; o < 8; o++) {
                for (int q = 0; q < 3; q++) {
                    b.x.eval(q, o);
                    b.due("property " + q + " of " + o, b.x.result(), q == p ? ints[o] : 0);
                }
            }
        }
    }

    /** "3 (OBJ: an object or null, null at first)," */
    private static void linkOfObjects() {
        for (int o = 0; o < 8; o++) {
            Bench b = new Bench("property 3 of object " + o).withEight();
            for (int t = 0; t < 8; t++) {
                b.x.set(t, 0, 100 + t);
            }
            b.rule(0, NUM, "it .3 .0");
            b.rule(1, BOOL, "it .3 == null");
            for (int each = 0; each < 8; each++) {
                b.value(1, each, 1, 0);
            }
            b.error(0, o, NULLERR, 2, 0);
            for (int t = 0; t < 8; t++) {
                b.due("link to " + t, b.x.link(o, 3, t), true);
                b.value(0, o, 100 + t, 0);
                b.value(1, o, 0, 0);
                b.value(1, (o + 1) % 8, 1, 0);
            }
            b.due("link to null", b.x.link(o, 3, -1), true);
            b.error(0, o, NULLERR, 2, 0);
            b.value(1, o, 1, 0);
        }
    }

    /** The rules 4 and 5 count the list that is the property of the same number. */
    private static Bench counting(String name) {
        Bench b = new Bench(name).withEight();
        b.rule(4, NUM, "sum0 ( it .4 : 1 )");
        b.rule(5, NUM, "sum0 ( it .5 : 1 )");
        return b;
    }

    private static void dueCount(Bench b, int o, int p, int count) {
        b.x.eval(p, o);
        b.due("objects in list " + p + " of " + o, b.x.result(), count);
        b.due("units for list " + p + " of " + o, b.x.used(), count);
    }

    /** "4 and 5 (LIST:" "empty at first)." */
    private static void listsEmptyAtFirst() {
        Bench b = counting("lists at first");
        for (int o = 0; o < 8; o++) {
            dueCount(b, o, 4, 0);
            dueCount(b, o, 5, 0);
        }
    }

    /** "up to 4 objects, also several times the same," */
    private static void listsUpToFour() {
        for (int o = 0; o < 8; o++) {
            for (int p = 4; p < 6; p++) {
                Bench b = counting("list " + p + " of " + o);
                for (int count = 0; count < 4; count++) {
                    dueCount(b, o, p, count);
                    // The even ones take the same object four times, the odd ones four objects.
                    b.due("append", b.x.link(o, p, o % 2 == 0 ? 7 - o : (o + count) % 8), true);
                }
                b.due("a fifth", b.x.link(o, p, 0), false);
                for (int each = 0; each < 8; each++) {
                    dueCount(b, each, 4, each == o && p == 4 ? 4 : 0);
                    dueCount(b, each, 5, each == o && p == 5 ? 4 : 0);
                }
            }
        }
    }

    /** "in order," Which of two objects stands at each place of a list is told by the token at which the units end. */
    private static void listsInOrder() {
        for (int at = 0; at < 4; at++) {
            Bench b = new Bench("order of lists, at " + at).with(0, 1).fuelled();
            b.x.set(1, 0, 1);
            b.rule(2, NUM, Bench.burn(38 - 2 * at));
            b.rule(0, NUM, "r2 ( it ) + sum0 ( it .4 : v0 .0 == 1 ? r3 ( it ) : r3 ( it ) )");
            for (int pattern = 0; pattern < 16; pattern++) {
                b.x.link(0, 4, -1);
                for (int i = 0; i < 4; i++) {
                    b.x.link(0, 4, pattern >> i & 1);
                }
                b.error(0, 0, STOPPED, (pattern >> at & 1) == 1 ? 15 : 20, 40);
            }
        }
    }

    /** "TOKENS kind and value (looked at for 0, 1, 2, 4, 5, 20, 21, 22 alone):" */
    private static void valuesNotLookedAt() {
        int[] values = {MIN, -1, 0, 1, 2, 3, 5, 6, 23, MAX};
        for (int value : values) {
            Bench b = new Bench("idle value " + value).with(0, 1);
            b.idle = value;
            b.x.link(0, 4, 1);
            b.x.link(0, 4, 0);
            b.yields(BOOL, "! ( it == null ) && ( 7 - 2 * 3 < 8 / 2 + 1 ? it == it : null == it ) || it == null", 1);
            b.yields(NUM, "sum1 ( it .4 : - ( v1 == it ? 5 : 7 ) )", -12);
            b.finding(0, NUM, "sum1 ( it .4 : v0 .0 )", BINDING, 5);
            b.finding(0, NUM, "sum1 ( it .4 : 1 ) + v1 .0", BINDING, 8);
            b.yields(NUM, "sum1 ( it .4 : sum2 ( v1 .4 : 1 ) )", 2);
        }
        // The value of a NUMBER is no name: not of a VAR, nor of a rule that isn't there or that is fixed by it.
        for (int value = 0; value < 6; value++) {
            Bench b = new Bench("NUMBER " + value).with(0);
            b.rule(1, NUM, value + " + sum0 ( it .4 : " + value + " )");
            b.rule(0, NUM, "1");
            b.rule(0, BOOL, "1 == 1");
        }
    }

    /**
     * "0 NUMBER (any int) 1 DOT (property 0..5) 2 SAFE (property 0..5) 3 IT 4 VAR (0..2) 5 RULE (0..5)
     * 6 ( 7 ) 8 ? 9 : 10 || 11 && 12 ! 13 == 14 < 15 + 16 - 17 * 18 / 19 NULL 20 ANY (0..2) 21 ALL (0..2) 22 SUM (0..2)"
     */
    private static void rangesOfValues() {
        // Numbers whose low bits are in range are outside it all the same.
        int[] tried = {MIN, MIN + 1, -65536, -256, -6, -3, -2, -1, 0, 1, 2, 3, 4, 5, 6, 7, 8, 256, 258, 65536, 65538, MAX - 1, MAX};
        int[] last = {MAX, 5, 5, MAX, 2, 5, MAX, MAX, MAX, MAX, MAX, MAX, MAX, MAX, MAX, MAX, MAX, MAX, MAX, MAX, 2, 2, 2};
        for (int kind = 0; kind < 23; kind++) {
            Bench b = new Bench("range of kind " + kind);
            for (int value : tried) {
                boolean fits = last[kind] == MAX || value >= 0 && value <= last[kind];
                b.due("token " + value, b.x.token(kind, value), fits);
                b.due("tokens then", b.x.wipe(), fits ? 1 : 0);
            }
        }
    }

    private static void endsOfRangesInUse() {
        int[] ints = {MIN, MIN + 1, -1, 0, 1, MAX - 1, MAX};
        for (int n : ints) {
            new Bench("NUMBER").with(0).yields(NUM, "" + n, n);
        }
        String[] dots = {".", "?."};
        for (String dot : dots) {
            Bench b = new Bench("ends of " + dot).with(0, 1);
            b.x.set(0, 0, 10);
            b.x.set(0, 2, 12);
            b.x.link(0, 3, 1);
            b.x.link(0, 4, 0);
            b.x.link(0, 5, 0);
            b.x.link(0, 5, 0);
            b.yields(NUM, "it " + dot + "0", 10);
            b.yields(NUM, "it " + dot + "2", 12);
            b.yields(BOOL, "it " + dot + "3 == it", 0);
            b.yields(NUM, "sum0 ( it " + dot + "4 : 1 )", 1);
            b.yields(NUM, "sum0 ( it " + dot + "5 : 1 )", 2);
        }
        Bench b = new Bench("ends of RULE").with(0);
        b.rule(5, NUM, "55");
        b.rule(0, NUM, "r5 ( it ) + 1");
        b.rule(5, NUM, "it .0 == 0 ? 50 : r0 ( it )");
        b.value(0, 0, 51, 1);
        b.rule(5, NUM, "7");
        b.rule(1, NUM, "r0 ( it )");
        b.value(1, 0, 8, 2);
        for (int v = 0; v < 3; v++) {
            Bench q = new Bench("VAR " + v).with(0, 1);
            q.x.link(0, 4, 1);
            q.x.set(1, 0, 9);
            q.yields(NUM, "sum" + v + " ( it .4 : v" + v + " .0 )", 9);
            q.yields(BOOL, "any" + v + " ( it .4 : v" + v + " .0 == 9 )", 1);
            q.yields(BOOL, "all" + v + " ( it .4 : v" + v + " .0 == 8 )", 0);
        }
    }

    private static void find(int kind, String text, int finding, int place) {
        new Bench("grammar").finding(0, kind, text, finding, place);
    }

    private static void num(String text, int result) {
        new Bench("grammar").with(0).yields(NUM, text, result);
    }

    private static void bool(String text, int result) {
        new Bench("grammar").with(0).yields(BOOL, text, result);
    }

    /** "GRAMMAR ([ ] once or not, { } any number of times):" "expr = or [ ? expr : expr ]" */
    private static void exprOnceOrNot() {
        num("1", 1);
        num("1 == 1 ? 2 : 3", 2);
        find(NUM, "1 == 1 ? 2", SYNTAX, 5);
        find(NUM, "1 == 1 ? 2 :", SYNTAX, 6);
        find(NUM, "1 == 1 ? 2 : 3 : 4", SYNTAX, 7);
        find(NUM, "1 == 1 : 2", SYNTAX, 3);
        // What comes before ? is an or, what comes behind is an expr each.
        num("1 == 2 || 1 == 1 ? 4 : 5", 4);
        num("1 == 2 ? 4 : 1 == 2 ? 5 : 6", 6);
        num("1 == 1 ? 1 == 2 ? 4 : 5 : 6", 5);
        num("( 1 == 1 ? 1 == 2 : 1 == 1 ) ? 4 : 5", 5);
        String right = Bench.times(6, "1 == 2 ? 7 :") + " 8";
        num(right, 8);
        String left = Bench.times(6, "1 == 1 ?") + " 8 " + Bench.times(6, ": 7");
        num(left, 8);
        find(NUM, left + " : 7", SYNTAX, Bench.countOf(left));
        find(NUM, Bench.times(20, "1 ?"), SYNTAX, 40);
    }

    /**
     * "or = and { || and } and = cmp { && cmp } cmp = add { (== | <) add }
     * add = term { (+ | -) term } term = unary { (* | /) unary }"
     */
    private static void repetitionsAnyNumberOfTimes() {
        String[] ops = {"+", "-", "*", "/", "||", "&&", "==", "<"};
        for (String op : ops) {
            boolean logical = op.equals("||") || op.equals("&&");
            boolean compares = op.equals("==") || op.equals("<");
            String one = logical ? "1 == 1" : "1";
            int kind = logical || compares ? BOOL : NUM;
            find(kind, one + " " + op + " " + one, OK, -1);
            find(kind, one + " " + op, SYNTAX, Bench.countOf(one) + 1);
            find(kind, op + " " + one, op.equals("-") ? OK : SYNTAX, op.equals("-") ? -1 : 0);
            find(kind, one + " " + op + " " + one + " " + op, SYNTAX, 2 * Bench.countOf(one) + 2);
            if (!compares) {
                // As often as forty tokens hold.
                int more = logical ? 9 : 19;
                find(kind, one + " " + Bench.times(more, op + " " + one), OK, -1);
            }
        }
        bool("1 == 1 " + Bench.times(6, "== ( 1 == 1 )"), 1);
        bool("1 < 2 " + Bench.times(5, "== ( 1 < 2 )") + " == ( 2 < 1 )", 0);
        num("1 " + Bench.times(19, "+ 1"), 20);
        num("1 " + Bench.times(19, "- 1"), -18);
        num("2 " + Bench.times(19, "* 2"), 1 << 20);
        num("-2147483648 " + Bench.times(19, "/ 2"), -4096);
        bool("1 == 2 " + Bench.times(8, "|| 1 == 2") + " || 1 == 1", 1);
        bool("1 == 1 " + Bench.times(8, "&& 1 == 1") + " && 1 == 2", 0);
    }

    /** "unary = (- | !) unary | prim { DOT | SAFE }" */
    private static void unaryAndNavigation() {
        for (int minuses = 0; minuses < 40; minuses++) {
            num(Bench.times(minuses, "-") + " 5", minuses % 2 == 0 ? 5 : -5);
        }
        for (int nots = 0; nots <= 35; nots++) {
            bool(Bench.times(nots, "!") + " ( 1 == 1 )", nots % 2 == 0 ? 1 : 0);
        }
        find(NUM, Bench.times(40, "-"), SYNTAX, 40);
        find(BOOL, "! - ! 1", GuardedRules.CLASH, 0);
        for (int links = 0; links < 39; links++) {
            Bench b = new Bench("navigation").with(0);
            b.x.set(0, 0, 6);
            b.x.link(0, 3, 0);
            b.yields(NUM, "it " + Bench.times(links, ".3") + " .0", 6);
            b.yields(NUM, "it " + Bench.times(links, "?.3") + " ?.0", 6);
        }
        // DOT and SAFE bind before a prefix, and stand behind every prim.
        num("- it .0", 0);
        find(NUM, "( - it ) .0", GuardedRules.CLASH, 1);
        find(NUM, "( it ) .3 ?.0", OK, -1);
        find(NUM, "r0 ( it ) .0", GuardedRules.CLASH, 4);
        find(BOOL, "any0 ( it .4 : 1 == 1 ) ?.3 == it", GuardedRules.CLASH, 9);
        find(NUM, "1 .0", GuardedRules.CLASH, 1);
        find(NUM, ".0", SYNTAX, 0);
        find(NUM, "- ?.0", SYNTAX, 1);
    }

    /** Behind an operand - has two sides, behind everything else one. */
    private static void minusOfOneSideOrTwo() {
        String[] numbers = {"5", "it .0", "it ?.0", "( 5 )", "r1 ( it )", "sum1 ( it .4 : 5 )"};
        for (String number : numbers) {
            Bench b = new Bench("- behind " + number).with(0);
            b.x.set(0, 0, 5);
            b.x.link(0, 4, 0);
            b.rule(1, NUM, "5");
            b.yields(NUM, number + " - 2", 3);
            b.yields(NUM, number + " - 2 * 3", -1);
            b.yields(NUM, number + " - - 2", 7);
            b.yields(NUM, "- " + number + " - 2", -7);
            b.yields(NUM, "2 - " + number, -3);
        }
        // One side alone would leave the operand before it without an operator.
        String[] others = {"it", "null", "it .3", "it ?.3", "it .4", "( it )", "it ?.5"};
        for (String other : others) {
            find(NUM, other + " - 2", GuardedRules.CLASH, Bench.countOf(other));
        }
        find(NUM, "sum0 ( it .4 : v0 - 2 )", GuardedRules.CLASH, 6);
        find(NUM, "sum0 ( it .4 : 2 - v0 )", GuardedRules.CLASH, 6);
        String[] operators = {"+", "-", "*", "/"};
        int[] results = {4, 8, -12, -3};
        for (int i = 0; i < operators.length; i++) {
            num("6 " + operators[i] + " - 2", results[i]);
        }
        bool("6 == - 6", 0);
        bool("6 < - 6", 0);
        bool("1 == 2 || - 1 == -1", 1);
        bool("1 == 1 && - 1 == -1", 1);
        bool("! ( - 1 == 1 )", 1);
        num("1 == 1 ? - 2 : - 3", -2);
        num("1 == 2 ? - 2 : - 3", -3);
        num("sum0 ( it .4 : - 2 )", 0);
    }

    /** "prim = NUMBER | IT | VAR | NULL | ( expr ) | RULE ( expr ) | (ANY | ALL | SUM) ( expr : expr )" */
    private static void primaries() {
        String[] single = {"1", "it", "v0", "null"};
        for (String a : single) {
            for (String c : single) {
                find(NUM, a + " " + c, SYNTAX, 1);
            }
            find(NUM, a + " ( 1 )", SYNTAX, 1);
            find(NUM, a + " )", SYNTAX, 1);
        }
        for (int deep = 0; deep < 20; deep++) {
            num(Bench.times(deep, "(") + " 3 " + Bench.times(deep, ")"), 3);
            find(NUM, Bench.times(deep, "(") + " 3 " + Bench.times(deep + 1, ")"), SYNTAX, 2 * deep + 1);
            find(NUM, Bench.times(deep + 1, "(") + " 3 " + Bench.times(deep, ")"), SYNTAX, 2 * deep + 2);
        }
        find(NUM, "( )", SYNTAX, 1);
        lackingPart("r0 ( it )");
        for (String q : QUANTIFIERS) {
            lackingPart(q + "0 ( it .4 : 1 )");
            find(NUM, q + "0 ( it .4 )", SYNTAX, 4);
            find(NUM, q + "0 ( it .4 : 1 : 2 )", SYNTAX, 6);
            find(NUM, q + "0 ( : 1 )", SYNTAX, 2);
            find(NUM, q + "0 ( it .4 : )", SYNTAX, 5);
        }
        find(NUM, "r0 ( )", SYNTAX, 2);
        find(NUM, "r0 ( it : it )", SYNTAX, 3);
        find(NUM, Bench.times(20, "r0 ("), SYNTAX, 40);
        find(NUM, Bench.times(20, "sum0 ("), SYNTAX, 40);
        find(NUM, Bench.times(10, "sum0 ( it :"), SYNTAX, 40);
        find(NUM, Bench.times(9, "sum0 ( it :") + " )", SYNTAX, 36);
    }

    /** Every beginning of the text needs more, and its brackets cannot be left out. */
    private static void lackingPart(String text) {
        String[] words = text.split(" ");
        StringBuilder begun = new StringBuilder();
        for (int i = 0; i < words.length; i++) {
            find(NUM, begun.toString(), SYNTAX, i);
            begun.append(words[i]).append(' ');
        }
        find(NUM, words[0] + " it", SYNTAX, 1);
        find(NUM, words[0] + " )", SYNTAX, 1);
    }

    /** "Repetitions group to the left." */
    private static void groupToTheLeft() {
        num("10 - 4 - 3", 3);
        num("10 - ( 4 - 3 )", 9);
        num("10 - 4 + 3", 9);
        num("100 / 10 / 5", 2);
        num("100 / ( 10 / 5 )", 50);
        num("7 / 2 * 2", 6);
        num("7 * 3 / 2", 10);
        num("7 * ( 3 / 2 )", 7);
        bool("1 < 2 == ( 3 < 4 )", 1);
        find(BOOL, "( 3 < 4 ) == 1 < 2", GuardedRules.CLASH, 5);
        find(BOOL, "1 < 2 < 3", GuardedRules.CLASH, 3);
        bool("2 == 2 == ( 3 == 3 )", 1);
        bool("1 == 2 == ( 3 == 4 )", 1);
        find(BOOL, "( 3 == 3 ) == 2 == 2", GuardedRules.CLASH, 5);
        bool("1 == 2 && 1 / 0 == 1 && 1 == 1", 0);
        bool("1 == 1 || 1 / 0 == 1 || 1 == 2", 1);
        // One kind of repetition holds its parts before the next weaker one.
        num("2 + 3 * 4", 14);
        num("2 * 3 + 4", 10);
        bool("1 + 1 == 2", 1);
        bool("2 < 1 + 2", 1);
        bool("1 == 2 && 1 == 1 || 1 == 1", 1);
        bool("1 == 1 || 1 == 1 && 1 == 2", 1);
        num("- 2 * 3 - 1", -7);
        bool("! ( 1 == 2 ) && 1 == 2", 0);
    }

    /** "The expr after the : of ANY, ALL, SUM is its body; in it VAR of the same value is bound." */
    private static void bodies() {
        for (String q : QUANTIFIERS) {
            int kind = q.equals("sum") ? NUM : BOOL;
            String open = kind == NUM ? "" : "0 == ";
            for (int v = 0; v < 3; v++) {
                int other = (v + 1) % 3;
                String head = q + v + " ( it .4 : " + open;
                int place = Bench.countOf(head);
                find(kind, head + "v" + v + " .0 )", OK, -1);
                find(kind, head + "v" + other + " .0 )", BINDING, place);
                find(kind, head + "v" + v + " .0 ) == v" + v + " .0", BINDING, place + 4);
                find(kind, q + v + " ( v" + v + " .4 : " + open + "1 )", BINDING, 2);
                find(kind, head + "( 1 == 1 ? v" + v + " : null ) .0 )", OK, -1);
                find(kind, head + "sum" + other + " ( v" + v + " .4 : v" + v + " .0 + v" + other + " .0 ) )", OK, -1);
                find(kind, head + "sum" + other + " ( v" + other + " .4 : 1 ) )", BINDING, place + 2);
                find(kind, head + "sum" + other + " ( it .4 : 1 ) + v" + other + " .0 )", BINDING, place + 8);
            }
        }
    }
}
