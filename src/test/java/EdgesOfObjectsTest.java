/** The edges that the promises 1 to 5 name: a new object, object, set, link, allow. */
public final class EdgesOfObjectsTest {
    private static final int NUM = GuardedRules.NUM, BOOL = GuardedRules.BOOL;
    private static final int REFUSED = GuardedRules.REFUSED, VALUE = GuardedRules.VALUE, DENIED = GuardedRules.DENIED;
    private static final int MIN = Integer.MIN_VALUE, MAX = Integer.MAX_VALUE;

    public static void main(String[] args) {
        newObject();
        newObjectAllowsEverything();
        newObjectsAreApart();
        objectOfBadClass();
        eightObjects();
        refusedCallsAreNotRemembered();
        setOfNoObject();
        setOfBadProperty();
        linkOfNoObject();
        linkOfBadProperty();
        linkToNoObject();
        linkToFullList();
        linkThree();
        linkLists();
        allowFromNowOn();
        allowOfBadClassOrProperty();
        Bench.end("EdgesOfObjectsTest");
    }

    /** "No objects, no rules, no tokens;" */
    private static void newObject() {
        Bench b = new Bench("new");
        for (int o = -1; o < 9; o++) {
            b.due("set", b.x.set(o, 0, 1), false);
            b.due("link", b.x.link(o, 3, -1), false);
            b.due("link", b.x.link(o, 4, o), false);
            for (int r = -1; r < 7; r++) {
                b.due("eval", b.x.eval(r, o), REFUSED);
            }
        }
        b.due("wipe", b.x.wipe(), 0);
        b.due("compile of no tokens", b.x.compile(0, NUM), GuardedRules.SYNTAX);
        b.due("its place", b.x.place(), 0);
        b.due("first object", b.x.object(1), 0);
        for (int r = 0; r < 6; r++) {
            b.due("eval at an object", b.x.eval(r, 0), REFUSED);
        }
        for (int r = 0; r < 6; r++) {
            for (int callee = 0; callee < 6; callee++) {
                if (r != callee) {
                    b.finding(r, NUM, "r" + callee + " ( it )", GuardedRules.UNKNOWN, 0);
                }
            }
        }
        b.due("wipe", b.x.wipe(), 0);
    }

    /** "the policy allows everything." */
    private static void newObjectAllowsEverything() {
        String[] dots = {".", "?."};
        for (String dot : dots) {
            for (int p = 0; p < 6; p++) {
                Bench b = new Bench("policy at first").with(0, 1, 2);
                b.rule(0, BOOL, reading(dot, p));
                for (int o = 0; o < 3; o++) {
                    b.value(0, o, 1, 0);
                }
            }
        }
    }

    private static String reading(String dot, int p) {
        return p < 3 ? "it " + dot + p + " == 0" : p == 3 ? "it " + dot + "3 == null" : "all0 ( it " + dot + p + " : 1 == 2 )";
    }

    private static void newObjectsAreApart() {
        Bench used = new Bench("used before").withEight();
        used.x.set(0, 0, 9);
        used.x.link(0, 3, 1);
        used.x.link(0, 4, 1);
        used.x.allow(0, 1, false);
        used.rule(0, NUM, "it .3 .3 .0");
        used.error(0, 0, GuardedRules.NULLERR, 3, 0);
        used.type("1 +");
        used.x.compile(0, NUM);
        Bench b = new Bench("made after").with(0);
        b.due("place", b.x.place(), -1);
        b.due("result", b.x.result(), 0);
        b.due("errorAt", b.x.errorAt(), -1);
        b.due("used", b.x.used(), 0);
        b.due("wipe", b.x.wipe(), 0);
        b.due("eval", b.x.eval(0, 0), REFUSED);
        b.yields(NUM, "it .0 + it .1 + sum0 ( it .4 : 1 ) + ( it .3 == null ? 0 : 1 )", 0);
        used.due("tokens of the other one", used.x.wipe(), 2);
    }

    /** "A new object; answers its number; -1, changing nothing, if cls is outside 0..2" */
    private static void objectOfBadClass() {
        int[] bad = {-1, 3, 4, -2, 256, 258, MIN, MIN + 1, MAX};
        Bench b = new Bench("bad classes");
        for (int count = 0; count <= 8; count++) {
            for (int cls : bad) {
                b.due("object(" + cls + ")", b.x.object(cls), -1);
            }
            b.due("no object more", b.x.set(count, 0, 1), false);
            if (count < 8) {
                b.due("object", b.x.object(count % 3), count);
                b.due("one object more", b.x.set(count, 1, 1), true);
            }
        }
    }

    /** "or there are 8 objects." */
    private static void eightObjects() {
        Bench b = new Bench("eight objects");
        for (int o = 0; o < 8; o++) {
            b.due("object", b.x.object(o % 3), o);
            b.x.set(o, 0, o + 5);
        }
        for (int cls = -1; cls < 4; cls++) {
            b.due("a ninth", b.x.object(cls), -1);
        }
        b.due("set of a ninth", b.x.set(8, 0, 1), false);
        b.due("link to a ninth", b.x.link(0, 3, 8), false);
        b.rule(0, NUM, "it .0");
        b.due("eval at a ninth", b.x.eval(0, 8), REFUSED);
        b.x.allow(1, 0, false);
        for (int o = 0; o < 8; o++) {
            b.due("eval", b.x.eval(0, o), o % 3 == 1 ? DENIED : VALUE);
            b.due("result", b.x.result(), o % 3 == 1 ? 0 : o + 5);
        }
    }

    /** What was refused for want of an object doesn't come true when the object is made. */
    private static void refusedCallsAreNotRemembered() {
        Bench b = new Bench("made later").with(0);
        for (int o = 1; o < 8; o++) {
            for (int p = 0; p < 3; p++) {
                b.due("set", b.x.set(o, p, 77), false);
            }
            for (int p = 3; p < 6; p++) {
                b.due("link", b.x.link(o, p, 0), false);
                b.due("link to itself", b.x.link(o, p, o), false);
                b.due("link to it", b.x.link(0, p, o), false);
            }
        }
        for (int o = 1; o < 8; o++) {
            b.due("object", b.x.object(0), o);
        }
        b.rule(0, NUM, "it .0 + it .1 + it .2 + sum0 ( it .4 : 1 ) + sum0 ( it .5 : 1 ) + ( it .3 == null ? 0 : 1 )");
        for (int o = 0; o < 8; o++) {
            b.value(0, o, 0, 0);
        }
    }

    /** "Sets property p (0..2) of object o. False, changing nothing, if o is no object" */
    private static void setOfNoObject() {
        for (int count = 0; count <= 8; count++) {
            Bench b = new Bench("set with " + count + " objects");
            for (int o = 0; o < count; o++) {
                b.x.object(0);
            }
            int[] tried = {MIN, -8, -2, -1, 0, 1, 2, 3, 4, 5, 6, 7, 8, 9, 256, MAX};
            for (int o : tried) {
                for (int p = 0; p < 3; p++) {
                    b.due("set of " + o, b.x.set(o, p, 10 * p + o), o >= 0 && o < count);
                }
            }
            for (int p = 0; p < 3; p++) {
                b.rule(0, NUM, "it ." + p);
                for (int o = 0; o < count; o++) {
                    b.x.eval(0, o);
                    b.due("property " + p + " of " + o, b.x.result(), 10 * p + o);
                }
            }
        }
    }

    /** "or p outside 0..2." */
    private static void setOfBadProperty() {
        Bench b = new Bench("set of bad property").withEight();
        int[] bad = {MIN, -3, -1, 3, 4, 5, 6, 256, MAX};
        for (int p : bad) {
            for (int o = 0; o < 8; o++) {
                b.due("set", b.x.set(o, p, 5), false);
            }
        }
        b.rule(0, NUM, "it .0 + it .1 + it .2 + sum0 ( it .4 : 1 ) + sum0 ( it .5 : 1 ) + ( it .3 == null ? 0 : 1 )");
        for (int o = 0; o < 8; o++) {
            b.value(0, o, 0, 0);
        }
    }

    /** The number of objects in list 4, ten times those in list 5, and 100 more if property 3 isn't null. */
    private static final String LINKS = "sum0 ( it .4 : 1 ) + sum0 ( it .5 : 10 ) + ( it .3 == null ? 0 : 100 )";

    private static void dueLinks(Bench b, int o, int links) {
        b.x.eval(0, o);
        b.due("links of " + o, b.x.result(), links);
    }

    /** "False, changing nothing, if o is no object," */
    private static void linkOfNoObject() {
        for (int count = 0; count <= 8; count++) {
            Bench b = new Bench("link with " + count + " objects");
            for (int o = 0; o < count; o++) {
                b.x.object(0);
            }
            int[] tried = {MIN, -2, -1, 0, 1, 2, 3, 4, 5, 6, 7, 8, 9, MAX};
            for (int o : tried) {
                boolean there = o >= 0 && o < count;
                for (int p = 3; p < 6; p++) {
                    b.due("link " + o + " to null", b.x.link(o, p, -1), there);
                    b.due("link " + o + " to 0", b.x.link(o, p, 0), there);
                }
            }
            b.rule(0, NUM, LINKS);
            for (int o = 0; o < count; o++) {
                dueLinks(b, o, 111);
            }
        }
    }

    /** "p outside 3..5," */
    private static void linkOfBadProperty() {
        Bench b = new Bench("link of bad property").with(0, 1);
        int[] bad = {MIN, -1, 0, 1, 2, 6, 7, 256 + 3, MAX};
        b.rule(0, NUM, LINKS);
        for (int p : bad) {
            for (int target = -1; target < 2; target++) {
                b.due("link", b.x.link(0, p, target), false);
            }
        }
        dueLinks(b, 0, 0);
        for (int p = 3; p < 6; p++) {
            b.due("link", b.x.link(0, p, 1), true);
        }
        dueLinks(b, 0, 111);
        for (int p : bad) {
            for (int target = -1; target < 2; target++) {
                b.due("link", b.x.link(0, p, target), false);
            }
        }
        dueLinks(b, 0, 111);
        b.yields(NUM, "it .0 + it .1 + it .2", 0);
    }

    /** "target neither -1 nor an object," */
    private static void linkToNoObject() {
        for (int count = 1; count <= 8; count++) {
            Bench b = new Bench("link to one of " + count);
            for (int o = 0; o < count; o++) {
                b.x.object(0);
            }
            int[] tried = {MIN, MIN + 1, -3, -2, 0, 1, 2, 3, 4, 5, 6, 7, 8, 9, 256, MAX};
            b.rule(0, NUM, LINKS);
            for (int target : tried) {
                boolean there = target >= 0 && target < count;
                for (int p = 3; p < 6; p++) {
                    b.x.link(0, p, -1);
                    b.due("link to " + target, b.x.link(0, p, target), there);
                }
                dueLinks(b, 0, there ? 111 : 0);
            }
        }
        Bench b = new Bench("null or nothing").with(0);
        b.rule(0, NUM, LINKS);
        for (int p = 3; p < 6; p++) {
            b.x.link(0, p, 0);
            b.due("link to -2", b.x.link(0, p, -2), false);
            dueLinks(b, 0, p == 3 ? 100 : p == 4 ? 1 : 10);
            b.due("link to -1", b.x.link(0, p, -1), true);
            dueLinks(b, 0, 0);
        }
    }

    /** "or the list has 4 already." */
    private static void linkToFullList() {
        for (int o = 0; o < 8; o++) {
            for (int p = 4; p < 6; p++) {
                Bench b = new Bench("full list " + p + " of " + o).withEight();
                b.rule(0, NUM, LINKS);
                int each = p == 4 ? 1 : 10;
                for (int i = 0; i < 4; i++) {
                    b.due("append", b.x.link(o, p, (o + i) % 8), true);
                    dueLinks(b, o, each * (i + 1));
                }
                for (int target = 0; target < 9; target++) {
                    b.due("a fifth", b.x.link(o, p, target), false);
                }
                dueLinks(b, o, 4 * each);
                b.due("the other list", b.x.link(o, 9 - p, 0), true);
                b.due("property 3", b.x.link(o, 3, 0), true);
                dueLinks(b, o, 4 * each + 11 - each + 100);
                b.due("emptied", b.x.link(o, p, -1), true);
                dueLinks(b, o, 11 - each + 100);
                for (int i = 0; i < 4; i++) {
                    b.due("append again", b.x.link(o, p, 7), true);
                }
                b.due("a fifth again", b.x.link(o, p, 7), false);
                dueLinks(b, o, 4 * each + 11 - each + 100);
            }
        }
    }

    /** "Property 3: becomes the object target, or null for -1." */
    private static void linkThree() {
        Bench b = new Bench("property 3").withEight();
        b.rule(0, BOOL, "it .3 == null");
        b.rule(1, NUM, "it .3 .0");
        for (int t = 0; t < 8; t++) {
            b.x.set(t, 0, t + 1);
        }
        for (int o = 0; o < 8; o++) {
            b.value(0, o, 1, 0);
            b.due("to null that is null", b.x.link(o, 3, -1), true);
            b.due("to the last", b.x.link(o, 3, 7), true);
            b.value(1, o, 8, 0);
            b.due("to itself", b.x.link(o, 3, o), true);
            b.value(1, o, o + 1, 0);
            b.due("to the first", b.x.link(o, 3, 0), true);
            b.value(1, o, 1, 0);
            b.due("to null", b.x.link(o, 3, -1), true);
            b.value(0, o, 1, 0);
            b.due("to the next", b.x.link(o, 3, (o + 1) % 8), true);
        }
        for (int o = 0; o < 8; o++) {
            b.value(1, o, (o + 1) % 8 + 1, 0);
        }
    }

    /** "Properties 4, 5: target is added at the end, or for -1 the list becomes empty." */
    private static void linkLists() {
        for (int p = 4; p < 6; p++) {
            Bench b = new Bench("list " + p).withEight();
            b.rule(0, NUM, "sum0 ( it ." + p + " : 1 )");
            b.rule(1, BOOL, "any0 ( it ." + p + " : v0 == it .3 )");
            for (int size = 0; size <= 4; size++) {
                b.due("emptied", b.x.link(2, p, -1), true);
                b.value(0, 2, 0, 0);
                for (int i = 0; i < size; i++) {
                    b.due("append", b.x.link(2, p, 7 - i), true);
                    // The one that came last is found last.
                    b.x.link(2, 3, 7 - i);
                    b.value(1, 2, 1, i + 1);
                }
                b.value(0, 2, size, size);
                b.x.link(2, 3, 0);
                b.value(1, 2, 0, size);
            }
        }
    }

    /** "From now on property p may (yes) or may not be read of objects of class cls." */
    private static void allowFromNowOn() {
        for (int cls = 0; cls < 3; cls++) {
            for (int p = 0; p < 6; p++) {
                Bench b = new Bench("allow " + cls + " " + p).with(0, 1, 2);
                b.rule(0, BOOL, reading(".", p));
                boolean[] said = {true, false, false, true, true, false, true};
                b.value(0, cls, 1, 0);
                for (boolean yes : said) {
                    b.due("allow", b.x.allow(cls, p, yes), true);
                    for (int o = 0; o < 3; o++) {
                        b.due("eval", b.x.eval(0, o), o != cls || yes ? VALUE : DENIED);
                    }
                }
                b.x.allow(cls, p, false);
                // Objects that are made later are of the class too.
                b.due("object", b.x.object(cls), 3);
                b.due("eval at a later one", b.x.eval(0, 3), DENIED);
                for (int other = 0; other < 6; other++) {
                    b.rule(0, BOOL, reading(".", other));
                    b.due("eval of " + other, b.x.eval(0, cls), other == p ? DENIED : VALUE);
                }
            }
        }
        Bench without = new Bench("allow without objects");
        without.due("allow", without.x.allow(2, 5, false), true);
        without.with(0, 1, 2);
        without.rule(0, BOOL, reading(".", 5));
        for (int o = 0; o < 3; o++) {
            without.due("eval", without.x.eval(0, o), o == 2 ? DENIED : VALUE);
        }
    }

    /** "False, changing nothing, if cls is outside 0..2 or p outside 0..5." */
    private static void allowOfBadClassOrProperty() {
        int[] classes = {MIN, -2, -1, 3, 4, 256, MAX};
        int[] properties = {MIN, -6, -1, 6, 7, 12, 256, MAX};
        boolean[] said = {false, true};
        for (boolean yes : said) {
            Bench b = new Bench("allow of bad class or property").with(0, 1, 2);
            for (int i = 0; i < 18; i++) {
                b.due("allow", b.x.allow(i % 3, i / 3, !yes), true);
            }
            for (int cls : classes) {
                for (int p = -1; p < 7; p++) {
                    b.due("allow " + cls + " " + p, b.x.allow(cls, p, yes), false);
                }
            }
            for (int p : properties) {
                for (int cls = -1; cls < 4; cls++) {
                    b.due("allow " + cls + " " + p, b.x.allow(cls, p, yes), false);
                }
            }
            for (int p = 0; p < 6; p++) {
                b.rule(0, BOOL, reading(".", p));
                for (int o = 0; o < 3; o++) {
                    b.due("eval", b.x.eval(0, o), yes ? DENIED : VALUE);
                }
            }
        }
    }
}
