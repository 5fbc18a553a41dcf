/** Promises 1 to 5: a new object, object, set, link, allow. */
public final class ObjectsTest {
    private static final int NUM = GuardedRules.NUM, BOOL = GuardedRules.BOOL, DENIED = GuardedRules.DENIED;
    private static final int MIN = Integer.MIN_VALUE, MAX = Integer.MAX_VALUE;

    public static void main(String[] args) {
        newObject();
        object();
        set();
        linkOne();
        linkList();
        linkRefused();
        allow();
        allowRefused();
        Bench.end("ObjectsTest");
    }

    private static void newObject() {
        Bench b = new Bench("promise 1");
        b.due("place", b.x.place(), -1);
        b.due("result", b.x.result(), 0);
        b.due("errorAt", b.x.errorAt(), -1);
        b.due("used", b.x.used(), 0);
        b.due("wipe", b.x.wipe(), 0);
        b.due("set without objects", b.x.set(0, 0, 1), false);
        b.due("link without objects", b.x.link(0, 3, -1), false);
        b.due("first object", b.x.object(0), 0);
        for (int r = 0; r < 6; r++) {
            b.due("eval without rules", b.x.eval(r, 0), GuardedRules.REFUSED);
        }
        Bench all = new Bench("promise 1, policy").with(0, 1, 2);
        for (int p = 0; p < 6; p++) {
            all.rule(0, BOOL, p < 3 ? "it ." + p + " == 0" : p == 3 ? "it .3 == null" : "! any0 ( it ." + p + " : v0 == it )");
            for (int o = 0; o < 3; o++) {
                all.value(0, o, 1, 0);
            }
        }
        Bench other = new Bench("promise 1, apart").with(2);
        other.x.allow(2, 0, false);
        Bench fresh = new Bench("promise 1, fresh beside another").with(2);
        fresh.yields(NUM, "it .0", 0);
    }

    private static void object() {
        Bench b = new Bench("promise 2");
        int[] outside = {-1, 3, MIN, MAX};
        for (int cls : outside) {
            b.due("object(" + cls + ")", b.x.object(cls), -1);
        }
        for (int o = 0; o < 8; o++) {
            b.due("object " + o, b.x.object(o % 3), o);
            b.due("bad class", b.x.object(3), -1);
        }
        b.due("ninth object", b.x.object(0), -1);
        b.due("ninth object is none", b.x.set(8, 0, 1), false);
        b.due("eighth object is one", b.x.set(7, 0, 1), true);
        b.x.allow(1, 0, false);
        b.rule(0, NUM, "it .0");
        for (int o = 0; o < 8; o++) {
            b.due("class of object " + o, b.x.eval(0, o), o % 3 == 1 ? DENIED : GuardedRules.VALUE);
        }
    }

    private static void set() {
        Bench b = new Bench("promise 3").with(0, 1);
        int[] values = {5, MIN, MAX};
        for (int p = 0; p < 3; p++) {
            b.due("set", b.x.set(1, p, values[p]), true);
        }
        for (int p = 0; p < 3; p++) {
            b.rule(0, NUM, "it ." + p);
            b.value(0, 1, values[p], 0);
            b.value(0, 0, 0, 0);
        }
        int[][] bad = {{-1, 0}, {2, 0}, {8, 0}, {MIN, 0}, {MAX, 0}, {0, -1}, {0, 3}, {0, 5}, {0, MIN}, {0, MAX}};
        for (int[] call : bad) {
            b.due("set " + call[0] + " " + call[1], b.x.set(call[0], call[1], 9), false);
        }
        b.yields(NUM, "it .0 + it .1 + it .2", 0);
        b.due("set again", b.x.set(1, 0, -7), true);
        b.rule(0, NUM, "it .0");
        b.value(0, 1, -7, 0);
    }

    private static void linkOne() {
        Bench b = new Bench("promise 4, property 3").with(0, 1, 2);
        b.yields(BOOL, "it .3 == null", 1);
        b.due("link", b.x.link(0, 3, 2), true);
        b.x.set(2, 1, 11);
        b.yields(NUM, "it .3 .1", 11);
        b.due("link to itself", b.x.link(0, 3, 0), true);
        b.yields(BOOL, "it .3 .3 .3 == it", 1);
        b.due("link to null", b.x.link(0, 3, -1), true);
        b.yields(BOOL, "it .3 == null", 1);
        b.due("link to null again", b.x.link(0, 3, -1), true);
    }

    private static void linkList() {
        Bench b = new Bench("promise 4, lists").with(0, 1, 2);
        for (int o = 0; o < 3; o++) {
            b.x.set(o, 0, o + 1);
        }
        // The order is told by a rule that stops at the first object that isn't object 1.
        int[] items = {1, 1, 0, 2};
        for (int i = 0; i < 4; i++) {
            b.due("append", b.x.link(0, 4, items[i]), true);
        }
        b.due("append to a full list", b.x.link(0, 4, 1), false);
        b.rule(0, NUM, "sum0 ( it .4 : v0 .0 )");
        b.value(0, 0, 8, 4);
        b.rule(1, BOOL, "any0 ( it .4 : v0 .0 == 1 )");
        b.value(1, 0, 1, 3);
        b.rule(2, NUM, "sum0 ( it .5 : 1 )");
        b.value(2, 0, 0, 0);
        b.due("append to the other list", b.x.link(0, 5, 0), true);
        b.value(2, 0, 1, 1);
        b.value(2, 1, 0, 0);
        b.due("empty the full list", b.x.link(0, 4, -1), true);
        b.value(0, 0, 0, 0);
        b.value(2, 0, 1, 1);
        b.due("append after emptying", b.x.link(0, 4, 2), true);
        b.value(0, 0, 3, 1);
        b.due("empty the other list", b.x.link(0, 5, -1), true);
        b.due("empty an empty list", b.x.link(0, 5, -1), true);
        b.value(2, 0, 0, 0);
        b.due("last object's last list", b.x.link(2, 5, 2), true);
        b.value(2, 2, 1, 1);
    }

    private static void linkRefused() {
        Bench b = new Bench("promise 4, refused").with(0, 1);
        b.x.link(0, 3, 1);
        b.x.link(0, 4, 1);
        b.x.link(0, 5, 1);
        int[][] bad = {{-1, 3, 0}, {2, 3, 0}, {8, 4, 0}, {MIN, 5, 0}, {MAX, 5, 0}, {0, 2, 0}, {0, 6, 0}, {0, 0, 0}, {0, MIN, 0},
            {0, MAX, 0}, {0, 3, 2}, {0, 4, 2}, {0, 5, 2}, {0, 3, -2}, {0, 4, -2}, {0, 5, -2}, {0, 3, MAX}, {0, 4, MIN}, {2, 4, -1}};
        for (int[] call : bad) {
            b.due("link " + call[0] + " " + call[1] + " " + call[2], b.x.link(call[0], call[1], call[2]), false);
        }
        b.yields(NUM, "sum0 ( it .4 : 1 ) + sum0 ( it .5 : 10 ) + ( it .3 == null ? 100 : 0 )", 11);
    }

    private static void allow() {
        for (int cls = 0; cls < 3; cls++) {
            for (int p = 0; p < 6; p++) {
                Bench b = linkedToThemselves("promise 5");
                b.due("forbid", b.x.allow(cls, p, false), true);
                lookAtPolicy(b, cls, p);
                b.due("forbid again", b.x.allow(cls, p, false), true);
                b.due("allow", b.x.allow(cls, p, true), true);
                b.due("allow again", b.x.allow(cls, p, true), true);
                lookAtPolicy(b, -1, -1);
            }
        }
    }

    /** An object of each class, whose property 3 is the object itself and whose lists hold it. */
    private static Bench linkedToThemselves(String name) {
        Bench b = new Bench(name).with(0, 1, 2);
        for (int o = 0; o < 3; o++) {
            b.x.link(o, 3, o);
            b.x.link(o, 4, o);
            b.x.link(o, 5, o);
        }
        return b;
    }

    /** Reads every property of every class; one of them alone, or none, must be denied. */
    private static void lookAtPolicy(Bench b, int cls, int forbidden) {
        for (int p = 0; p < 6; p++) {
            b.rule(0, BOOL, p < 3 ? "it ." + p + " == 0" : p == 3 ? "it .3 == it" : "any0 ( it ." + p + " : v0 == it )");
            for (int o = 0; o < 3; o++) {
                boolean denied = o == cls && p == forbidden;
                b.due("eval of property " + p + " of class " + o, b.x.eval(0, o), denied ? DENIED : GuardedRules.VALUE);
                b.due("its place", b.x.errorAt(), denied ? (p < 4 ? 1 : 3) : -1);
            }
        }
    }

    private static void allowRefused() {
        Bench b = linkedToThemselves("promise 5, refused");
        int[][] bad = {{-1, 0}, {3, 0}, {MIN, 0}, {MAX, 0}, {0, -1}, {0, 6}, {1, -1}, {1, 6}, {2, MIN}, {2, MAX}};
        for (int[] call : bad) {
            b.due("allow " + call[0] + " " + call[1], b.x.allow(call[0], call[1], false), false);
            b.due("allow " + call[0] + " " + call[1], b.x.allow(call[0], call[1], true), false);
        }
        b.x.allow(0, 5, false);
        b.x.allow(0, 6, true);
        b.x.allow(1, -1, true);
        lookAtPolicy(b, 0, 5);
    }
}
