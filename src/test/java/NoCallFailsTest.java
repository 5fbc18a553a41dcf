/** Rule 7 of LANGUAGE.md: no call throws or fails to end, for any arguments in any state, also after the 512th call. */
public final class NoCallFailsTest {
    private static final int[] ODD = {Integer.MIN_VALUE, Integer.MIN_VALUE + 1, -65536, -41, -2, -1, 9, 22, 23, 39, 40, 41, 255, 256, 65536,
        Integer.MAX_VALUE - 1, Integer.MAX_VALUE};

    private long state;

    private NoCallFailsTest(int seed) {
        state = seed * 104729L + 3;
    }

    public static void main(String[] args) {
        for (int seed = 0; seed < 400; seed++) {
            new NoCallFailsTest(seed).call(seed == 0 ? 300000 : 3000);
        }
        System.out.println("NoCallFailsTest: every call came to its end");
    }

    private int below(int bound) {
        state = state * 6364136223846793005L + 1442695040888963407L;
        return (int) ((state >>> 33) % bound);
    }

    private int some() {
        return below(12) == 0 ? ODD[below(ODD.length)] : below(8) - (below(8) == 0 ? 1 : 0);
    }

    private void call(int calls) {
        GuardedRules x = new GuardedRules();
        for (int i = 0; i < calls; i++) {
            switch (below(16)) {
                case 0: x.object(some()); break;
                case 1: x.set(some(), some(), some()); break;
                case 2: case 3: x.link(some(), 3 + below(3), some()); break;
                case 4: x.link(some(), some(), some()); break;
                case 5: x.allow(some(), some(), below(4) != 0); break;
                case 6: if (below(4) == 0) x.wipe(); break;
                case 7: x.compile(some(), some()); break;
                case 8: x.compile(below(6), 1 + below(2)); break;
                case 9: typeRule(x); break;
                case 10: case 11: x.eval(below(6), below(8)); break;
                case 12: x.eval(some(), some()); break;
                case 13: x.result(); x.errorAt(); x.used(); x.place(); break;
                default: x.token(below(9) == 0 ? some() : below(23), some()); break;
            }
        }
    }

    /** A rule that passes, so that eval has something to do. */
    private void typeRule(GuardedRules x) {
        String[] texts = {"sum0 ( it .4 : sum1 ( v0 .5 : r0 ( v1 ) + v0 .0 ) )", "r1 ( it ) / it .1", "it .3 == null ? 1 : r2 ( it ?.3 )",
            "sum2 ( it ?.4 : it ?.3 ?.0 - r3 ( v2 ) )", Bench.times(39, "-") + " 1", "r0 ( it ) + r1 ( it ) + r2 ( it ) + r3 ( it )",
            "any0 ( it .4 : all1 ( it .5 : v0 == v1 ) ) ? 2 : 3"};
        x.wipe();
        for (String word : texts[below(texts.length)].split(" ")) {
            int[] token = Bench.tokenOf(word, some());
            x.token(token[0], token[1]);
        }
        x.compile(below(6), GuardedRules.NUM);
    }
}
