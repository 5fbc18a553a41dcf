/** The kind of every sort of expr, and every demand of "KINDS", met and not met. */
public final class EdgesOfKindsTest {
    private static final int NUM = GuardedRules.NUM, BOOL = GuardedRules.BOOL;
    private static final int OK = GuardedRules.OK, CLASH = GuardedRules.CLASH;

    /** One expr for each kind, in the order NUM, BOOL, OBJ, LIST. */
    private static final String[] OF_KIND = {"( 2 )", "( 1 == 1 )", "( it )", "( it .4 )"};
    private static final int NUMBER = 0, TRUTH = 1, THING = 2, LIST = 3;

    public static void main(String[] args) {
        kindsOfNumbers();
        kindsOfTruths();
        kindsOfObjects();
        kindsOfLists();
        kindOfRule();
        kindOfChoice();
        demandsOfArithmetic();
        demandsOfLogic();
        demandOfEquality();
        demandOfBranches();
        demandOfNavigation();
        demandOfQuantifiers();
        demandOfTheWhole();
        kindsStandInSpiteOfClashes();
        Bench.end("EdgesOfKindsTest");
    }

    /** A bench with rule 1 of the kind NUM and rule 2 of the kind BOOL. */
    private static Bench bench() {
        Bench b = new Bench("kinds");
        b.rule(1, NUM, "1");
        b.rule(2, BOOL, "1 == 1");
        return b;
    }

    private static void find(int kind, String text, int place) {
        bench().finding(0, kind, text, place < 0 ? OK : CLASH, place);
    }

    /** Puts the expr where one kind alone will do, for each of the four kinds. */
    private static void dueKind(String text, int kind) {
        find(NUM, "- ( " + text + " )", kind == NUMBER ? -1 : 0);
        find(BOOL, "! ( " + text + " )", kind == TRUTH ? -1 : 0);
        find(NUM, "( " + text + " ) ?.0", kind == THING ? -1 : Bench.countOf(text) + 2);
        find(NUM, "sum0 ( " + text + " : 1 )", kind == LIST ? -1 : 0);
    }

    /** "KINDS. NUM for NUMBER, DOT and SAFE 0..2, + - * / and unary -, SUM;" */
    private static void kindsOfNumbers() {
        String[] texts = {"7", "it .0", "it .1", "it .2", "it ?.0", "it ?.1", "it ?.2", "1 + 1", "1 - 1", "1 * 1", "1 / 1", "- 1",
            "sum1 ( it .4 : 1 )"};
        for (String text : texts) {
            dueKind(text, NUMBER);
        }
    }

    /** "BOOL for || && ! == < ANY ALL;" */
    private static void kindsOfTruths() {
        String[] texts = {"1 == 1 || 1 == 1", "1 == 1 && 1 == 1", "! ( 1 == 1 )", "1 == 1", "it == it", "1 < 1",
            "any1 ( it .4 : 1 == 1 )", "all1 ( it .4 : 1 == 1 )"};
        for (String text : texts) {
            dueKind(text, TRUTH);
        }
    }

    /** "OBJ for IT, VAR, NULL, DOT and SAFE 3;" */
    private static void kindsOfObjects() {
        String[] texts = {"it", "null", "it .3", "it ?.3"};
        for (String text : texts) {
            dueKind(text, THING);
        }
        for (int v = 0; v < 3; v++) {
            String body = " ( it .4 : ";
            find(NUM, "sum" + v + body + "v" + v + " ?.0 )", -1);
            find(NUM, "sum" + v + body + "- v" + v + " )", 5);
            find(BOOL, "any" + v + body + "! v" + v + " )", 5);
            find(NUM, "sum" + v + body + "sum" + (v + 1) % 3 + " ( v" + v + " : 1 ) )", 5);
        }
    }

    /** "LIST for DOT and SAFE 4, 5;" */
    private static void kindsOfLists() {
        String[] texts = {"it .4", "it .5", "it ?.4", "it ?.5"};
        for (String text : texts) {
            dueKind(text, LIST);
        }
    }

    /** "the rule's kind for RULE;" */
    private static void kindOfRule() {
        dueKind("r1 ( it )", NUMBER);
        dueKind("r2 ( it )", TRUTH);
        // The rule itself has the kind that is given, also where it stood with the other one.
        String[] before = {"", "5", "1 == 1"};
        for (int was = 0; was < before.length; was++) {
            Bench b = new Bench("own kind");
            if (was != 0) {
                b.rule(0, was, before[was]);
            }
            b.finding(0, BOOL, "- r0 ( it ) == 1", CLASH, 0);
            b.finding(0, NUM, "! r0 ( it ) ? 1 : 2", CLASH, 0);
            b.rule(0, NUM, "- r0 ( it )");
            b.rule(0, BOOL, "! r0 ( it )");
            b.rule(0, NUM, "r0 ( it )");
        }
    }

    /** "for ? : that of the expr after ?." */
    private static void kindOfChoice() {
        for (int kind = 0; kind < 4; kind++) {
            dueKind("1 == 1 ? " + OF_KIND[kind] + " : " + OF_KIND[kind], kind);
        }
        // Where the branches differ, the first one tells: the demand before is met, or is the lesser place.
        find(NUM, "- ( 1 == 1 ? 2 : it )", 5);
        find(NUM, "- ( 1 == 1 ? it : 2 )", 0);
        find(BOOL, "! ( 1 == 1 ? 1 == 1 : 2 )", 5);
        find(BOOL, "! ( 1 == 1 ? 2 : 1 == 1 )", 0);
    }

    /** "Demands, each at the place of the token: NUM on both sides of + - * / <, and for unary -;" */
    private static void demandsOfArithmetic() {
        String[] ops = {"+", "-", "*", "/", "<"};
        for (String op : ops) {
            dueBothSides(op, op.equals("<") ? BOOL : NUM, NUMBER);
        }
        for (int kind = 0; kind < 4; kind++) {
            find(NUM, "- " + OF_KIND[kind], kind == NUMBER ? -1 : 0);
            find(NUM, "3 + - " + OF_KIND[kind], kind == NUMBER ? -1 : 2);
        }
    }

    /** "BOOL on both sides of || && and for ! and before ?;" */
    private static void demandsOfLogic() {
        dueBothSides("||", BOOL, TRUTH);
        dueBothSides("&&", BOOL, TRUTH);
        for (int kind = 0; kind < 4; kind++) {
            find(BOOL, "! " + OF_KIND[kind], kind == TRUTH ? -1 : 0);
            find(BOOL, "1 == 1 && ! " + OF_KIND[kind], kind == TRUTH ? -1 : 4);
            find(NUM, OF_KIND[kind] + " ? 1 : 2", kind == TRUTH ? -1 : Bench.countOf(OF_KIND[kind]));
        }
    }

    private static void dueBothSides(String op, int result, int demanded) {
        for (int left = 0; left < 4; left++) {
            for (int right = 0; right < 4; right++) {
                boolean met = left == demanded && right == demanded;
                find(result, OF_KIND[left] + " " + op + " " + OF_KIND[right], met ? -1 : Bench.countOf(OF_KIND[left]));
            }
        }
    }

    /** "both sides of == of the same kind, not LIST;" */
    private static void demandOfEquality() {
        for (int left = 0; left < 4; left++) {
            for (int right = 0; right < 4; right++) {
                boolean met = left == right && left != LIST;
                find(BOOL, OF_KIND[left] + " == " + OF_KIND[right], met ? -1 : Bench.countOf(OF_KIND[left]));
            }
        }
        find(BOOL, "it ?.5 == it .5", 2);
        find(BOOL, "it .3 == it .2", 2);
        find(BOOL, "it .3 == it .3", -1);
        find(BOOL, "it .2 == it .2", -1);
    }

    /** "both branches of ? : of the same kind;" */
    private static void demandOfBranches() {
        String[] before = {"", "", "( ", "sum0 ( "};
        String[] behind = {"", "", " ) ?.0", " : 1 )"};
        for (int first = 0; first < 4; first++) {
            for (int second = 0; second < 4; second++) {
                String text = before[first] + "1 == 1 ? " + OF_KIND[first] + " : " + OF_KIND[second] + behind[first];
                int place = Bench.countOf(before[first]) + 3;
                find(first == TRUTH ? BOOL : NUM, text, first == second ? -1 : place);
            }
        }
    }

    /** "OBJ before DOT and SAFE and in RULE's brackets;" */
    private static void demandOfNavigation() {
        String[] dots = {".", "?."};
        for (int kind = 0; kind < 4; kind++) {
            int place = kind == THING ? -1 : Bench.countOf(OF_KIND[kind]);
            for (String dot : dots) {
                for (int p = 0; p < 3; p++) {
                    find(NUM, OF_KIND[kind] + " " + dot + p, place);
                }
                find(BOOL, OF_KIND[kind] + " " + dot + "3 == null", place);
                find(NUM, "sum0 ( " + OF_KIND[kind] + " " + dot + "4 : 1 )", place < 0 ? -1 : place + 2);
                find(NUM, "sum0 ( " + OF_KIND[kind] + " " + dot + "5 : 1 )", place < 0 ? -1 : place + 2);
            }
            find(NUM, "r1 ( " + OF_KIND[kind] + " )", kind == THING ? -1 : 0);
            find(BOOL, "r2 ( " + OF_KIND[kind] + " )", kind == THING ? -1 : 0);
            find(NUM, "4 - r0 ( " + OF_KIND[kind] + " )", kind == THING ? -1 : 2);
        }
    }

    /** "for ANY, ALL, SUM first a LIST, and the body BOOL (ANY, ALL) or NUM (SUM);" */
    private static void demandOfQuantifiers() {
        for (int first = 0; first < 4; first++) {
            for (int body = 0; body < 4; body++) {
                String rest = " ( " + OF_KIND[first] + " : " + OF_KIND[body] + " )";
                find(BOOL, "any0" + rest, first == LIST && body == TRUTH ? -1 : 0);
                find(BOOL, "all1" + rest, first == LIST && body == TRUTH ? -1 : 0);
                find(NUM, "sum2" + rest, first == LIST && body == NUMBER ? -1 : 0);
                find(NUM, "4 - sum2" + rest, first == LIST && body == NUMBER ? -1 : 2);
            }
        }
    }

    /** "the whole expr of the rule's kind, at the place behind the last token." */
    private static void demandOfTheWhole() {
        for (int kind = 0; kind < 4; kind++) {
            int behind = Bench.countOf(OF_KIND[kind]);
            find(NUM, OF_KIND[kind], kind == NUMBER ? -1 : behind);
            find(BOOL, OF_KIND[kind], kind == TRUTH ? -1 : behind);
        }
        find(BOOL, "1", 1);
        find(NUM, "it", 1);
        find(BOOL, Bench.times(39, "-") + " 1", 40);
        find(NUM, Bench.times(35, "!") + " ( 1 == 1 )", 40);
    }

    /** A clash inside leaves the kind of an expr as it is, so that it is the only one. */
    private static void kindsStandInSpiteOfClashes() {
        String[] arithmetic = {"it + 1", "1 - it", "it * it", "it / it"};
        for (String text : arithmetic) {
            find(NUM, "- ( " + text + " )", 3);
            find(BOOL, "! ( " + text + " )", 0);
        }
        String[] truths = {"it || it", "it && it", "it == 1", "it < it"};
        for (String text : truths) {
            find(BOOL, "! ( " + text + " )", 3);
            find(NUM, "- ( " + text + " )", 0);
        }
        find(NUM, "- 1 .0", 2);
        find(BOOL, "! 1 .0", 0);
        find(NUM, "- r1 ( 1 )", 1);
        find(BOOL, "! r1 ( 1 )", 0);
        find(NUM, "- sum0 ( it : it )", 1);
        find(BOOL, "! any0 ( it : it )", 1);
        find(BOOL, "! all0 ( it : it )", 1);
        find(BOOL, "! sum0 ( it : it )", 0);
        find(NUM, "- any0 ( it : it )", 0);
        find(NUM, "- - it", 1);
        find(NUM, "- ! it", 0);
        find(BOOL, "! ! it", 1);
        find(BOOL, "! - it", 0);
    }
}
