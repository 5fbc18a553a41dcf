/** Promises 6 and 7: token, wipe. */
public final class TokensTest {
    private static final int MIN = Integer.MIN_VALUE, MAX = Integer.MAX_VALUE;

    public static void main(String[] args) {
        kinds();
        values();
        fortyTokens();
        wipe();
        Bench.end("TokensTest");
    }

    private static void kinds() {
        Bench b = new Bench("promise 6, kinds");
        int[] outside = {-1, 23, MIN, MAX};
        for (int kind : outside) {
            b.due("token(" + kind + ", 0)", b.x.token(kind, 0), false);
        }
        b.due("nothing was appended", b.x.wipe(), 0);
        for (int kind = 0; kind <= 22; kind++) {
            b.due("token(" + kind + ", 0)", b.x.token(kind, 0), true);
        }
        b.due("all were appended", b.x.wipe(), 23);
    }

    private static void values() {
        for (int kind = 0; kind <= 22; kind++) {
            Bench b = new Bench("promise 6, values of kind " + kind);
            int last = lastValue(kind);
            int[] tried = {MIN, -2, -1, 0, 1, 2, 3, 4, 5, 6, 7, MAX};
            int taken = 0;
            for (int value : tried) {
                boolean fits = last == MAX || value >= 0 && value <= last;
                b.due("value " + value, b.x.token(kind, value), fits);
                taken += fits ? 1 : 0;
            }
            b.due("wipe", b.x.wipe(), taken);
        }
    }

    /** The greatest value of a token; MAX if any value will do. */
    private static int lastValue(int kind) {
        switch (kind) {
            case 1: case 2: case 5: return 5;
            case 4: case 20: case 21: case 22: return 2;
            default: return MAX;
        }
    }

    private static void fortyTokens() {
        Bench b = new Bench("promise 6, forty tokens").with(0);
        for (int i = 0; i < 39; i++) {
            b.due("token", b.x.token(16, i), true);
        }
        b.due("fortieth token", b.x.token(0, 7), true);
        b.due("one more", b.x.token(0, 8), false);
        b.due("one more of a bad kind", b.x.token(23, 8), false);
        b.due("compile of forty", b.x.compile(0, GuardedRules.NUM), GuardedRules.OK);
        b.value(0, 0, -7, 0);
        b.due("the tokens are gone", b.x.token(3, 0), true);
        b.due("and only this one is there", b.x.wipe(), 1);
    }

    private static void wipe() {
        Bench b = new Bench("promise 7").with(0);
        b.due("wipe of nothing", b.x.wipe(), 0);
        b.type("1 + 2");
        b.due("wipe", b.x.wipe(), 3);
        b.due("wipe again", b.x.wipe(), 0);
        b.type("it");
        b.due("compile after wiping sees the new ones alone", b.x.compile(0, GuardedRules.NUM), GuardedRules.CLASH);
        b.due("place", b.x.place(), 1);
        b.due("wipe after a finding", b.x.wipe(), 1);
        b.due("place isn't changed by wipe", b.x.place(), 1);
        b.yields(GuardedRules.NUM, "4", 4);
        b.x.wipe();
        b.value(0, 0, 4, 0);
        for (int i = 0; i < 40; i++) {
            b.x.token(7, 0);
        }
        b.due("wipe of forty", b.x.wipe(), 40);
    }
}
