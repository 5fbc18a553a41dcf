import java.util.ArrayList;
import java.util.List;

/** All promises: long mixed runs, always the same ones, on the class and on the model beside it. */
public final class ModelTest {
    private static final int RUNS = 3000;

    private static final long[] seen = new long[7];
    private static final long[] outcomes = new long[7];
    private static int wrong = 0;

    private long state;
    private final GuardedRules x = new GuardedRules();
    private final Model m = new Model();
    private final StringBuilder told = new StringBuilder();
    private int calls = 0;
    private final boolean[] compiled = new boolean[6];
    private final int[] kinds = new int[6];

    private ModelTest(int run) {
        state = run * 7919L + 17;
    }

    public static void main(String[] args) {
        for (int run = 0; run < RUNS && wrong < 5; run++) {
            new ModelTest(run).go();
        }
        for (int code = 0; code < 7; code++) {
            System.out.println("code " + code + ": " + seen[code] + " compiles, " + outcomes[code] + " evals");
            if (seen[code] == 0 || outcomes[code] == 0) {
                System.out.println("the runs never met code " + code);
                wrong++;
            }
        }
        if (wrong != 0) {
            System.exit(1);
        }
    }

    private int below(int bound) {
        state = state * 6364136223846793005L + 1442695040888963407L;
        return (int) ((state >>> 33) % bound);
    }

    private void same(String call, long got, long due) {
        told.append(call).append(" -> ").append(got).append('\n');
        calls++;
        if (got != due) {
            wrong++;
            System.out.println("ModelTest: the last of these calls is due to answer " + due + ":\n" + told);
            told.setLength(0);
        }
    }

    private void go() {
        if (below(3) != 0) {
            fill();
        } else {
            int objects = below(10);
            for (int i = 0; i < objects; i++) {
                object(below(3));
            }
            for (int i = 0; i < 30; i++) {
                changeObjects();
            }
        }
        // The last call that is looked at is the last one that the document speaks of.
        while (calls < Counted.CALLS && wrong == 0) {
            int what = below(10);
            if (what < 4) {
                compile();
            } else if (what < 8 && calls + 4 <= Counted.CALLS) {
                eval();
            } else {
                changeObjects();
            }
        }
    }

    /** Eight objects, all linked and with full lists, so that runs come to the end of the units. */
    private void fill() {
        for (int o = 0; o < 8; o++) {
            object(below(3));
        }
        for (int o = 0; o < 8; o++) {
            set(o, 0, below(4));
            link(o, 3, below(8));
            for (int i = 0; i < 8; i++) {
                link(o, 4 + i % 2, below(8));
            }
        }
    }

    private void set(int o, int p, int v) {
        same("set(" + o + ", " + p + ", " + v + ")", x.set(o, p, v) ? 1 : 0, m.set(o, p, v) ? 1 : 0);
    }

    private void link(int o, int p, int t) {
        same("link(" + o + ", " + p + ", " + t + ")", x.link(o, p, t) ? 1 : 0, m.link(o, p, t) ? 1 : 0);
    }

    private void object(int cls) {
        same("object(" + cls + ")", x.object(cls), m.object(cls));
    }

    private void changeObjects() {
        int what = below(20);
        int o = below(9) - (below(10) == 0 ? 1 : 0);
        if (what == 0) {
            object(below(5) - 1);
        } else if (what < 5) {
            int p = below(20) == 0 ? below(8) - 2 : below(3);
            set(o, p, below(4) == 0 ? odd() : below(4));
        } else if (what < 18) {
            int p = below(20) == 0 ? below(9) - 1 : 3 + below(3);
            link(o, p, below(12) == 0 ? below(12) - 2 : below(8));
        } else {
            int cls = below(20) == 0 ? below(6) - 1 : below(3);
            int p = below(20) == 0 ? below(9) - 1 : below(6);
            boolean yes = below(3) != 0;
            same("allow(" + cls + ", " + p + ", " + yes + ")", x.allow(cls, p, yes) ? 1 : 0, m.allow(cls, p, yes) ? 1 : 0);
        }
    }

    private int odd() {
        int[] some = {Integer.MIN_VALUE, Integer.MAX_VALUE, -1, 65536, 46341, -7};
        return some[below(some.length)];
    }

    private void eval() {
        int r = below(30) == 0 ? below(9) - 1 : below(6);
        for (int i = 0; i < 6 && r >= 0 && r < 6 && !compiled[r]; i++) {
            r = (r + 1) % 6;
        }
        int o = below(30) == 0 ? below(12) - 2 : below(8);
        int outcome = x.eval(r, o);
        outcomes[outcome]++;
        same("eval(" + r + ", " + o + ")", outcome, m.eval(r, o));
        same("result()", x.result(), m.result());
        same("errorAt()", x.errorAt(), m.errorAt());
        same("used()", x.used(), m.used());
    }

    private void compile() {
        int r = below(40) == 0 ? below(9) - 1 : below(6);
        int kind = below(40) == 0 ? below(6) - 1 : 1 + below(2);
        if (r >= 0 && r < 6 && compiled[r] && below(3) != 0) {
            kind = kinds[r];
        }
        List<int[]> text = tokens(r, kind);
        if (calls + text.size() + 3 > Counted.CALLS) {
            return;
        }
        if (below(8) != 0) {
            same("wipe()", x.wipe(), m.wipe());
        }
        for (int[] token : text) {
            same("token(" + token[0] + ", " + token[1] + ")", x.token(token[0], token[1]) ? 1 : 0, m.token(token[0], token[1]) ? 1 : 0);
        }
        int finding = x.compile(r, kind);
        seen[finding]++;
        same("compile(" + r + ", " + kind + ")", finding, m.compile(r, kind));
        same("place()", x.place(), m.place());
        if (finding == 1) {
            compiled[r] = true;
            kinds[r] = kind;
        }
    }

    // ---- making up tokens: mostly an expr of the kind that is asked for, sometimes spoilt

    private List<int[]> made;
    private int own, ownKind;

    private List<int[]> tokens(int r, int kind) {
        own = r;
        ownKind = kind;
        made = new ArrayList<>();
        expr(kind == 2 ? 2 : 1, 2 + below(34), 0);
        int faults = below(3) == 0 ? 1 + below(2) : 0;
        for (int i = 0; i < faults && !made.isEmpty(); i++) {
            spoil();
        }
        return made;
    }

    private void spoil() {
        int at = below(made.size());
        int what = below(4);
        if (what == 0) {
            made.remove(at);
        } else if (what == 1) {
            made.set(at, new int[] {below(24) - (below(9) == 0 ? 1 : 0), below(7) - (below(9) == 0 ? 1 : 0)});
        } else if (what == 2) {
            made.add(at, new int[] {below(23), below(3)});
        } else {
            made.set(at, new int[] {made.get(at)[0], below(6)});
        }
    }

    private void put(int kind, int value) {
        made.add(new int[] {kind, value});
    }

    /** An expr of the kind, of about so many tokens; the bits of bound tell the VARs that may be used. */
    private void expr(int kind, int size, int bound) {
        int wanted = below(60) == 0 ? 1 + below(4) : kind;
        int rest = size - 3;
        if (rest > 1 && below(6) == 0) {
            boolean bracket = below(3) != 0;
            choice(wanted, rest, bound, bracket);
        } else if (wanted == 1) {
            number(rest, bound);
        } else if (wanted == 2) {
            truth(rest, bound);
        } else if (wanted == 3) {
            thing(rest, bound);
        } else {
            thing(rest, bound);
            put(1 + below(2), 4 + below(2));
        }
    }

    private void choice(int kind, int size, int bound, boolean bracket) {
        if (bracket) {
            put(6, 0);
        }
        expr(2, size / 3, bound);
        put(8, 0);
        expr(kind, size / 3, bound);
        put(9, 0);
        expr(kind, size / 3, bound);
        if (bracket) {
            put(7, 0);
        }
    }

    private void number(int size, int bound) {
        int what = size <= 0 ? below(3) : below(11);
        if (what == 0) {
            put(0, below(6) == 0 ? odd() : below(4));
        } else if (what < 3) {
            thing(size, bound);
            put(1 + below(2), below(3));
        } else if (what < 5) {
            infix(1, 15 + below(4), size, bound);
        } else if (what == 5) {
            put(16, 0);
            expr(1, size, bound);
        } else if (what == 6) {
            call(1, size, bound);
        } else {
            loop(22, size, bound);
        }
    }

    private void truth(int size, int bound) {
        int what = size <= 0 ? below(2) : below(10);
        if (what == 0) {
            infix(3, 13, size, bound);
        } else if (what < 3) {
            infix(1, 13 + below(2), size, bound);
        } else if (what < 5) {
            infix(2, below(5) == 0 ? 13 : 10 + below(2), size, bound);
        } else if (what == 5) {
            put(12, 0);
            expr(2, size, bound);
        } else if (what == 6) {
            call(2, size, bound);
        } else {
            loop(20 + below(2), size, bound);
        }
    }

    private void thing(int size, int bound) {
        int var = below(3);
        if ((bound >> var & 1) != 0 && below(3) != 0 || below(80) == 0) {
            put(4, var);
        } else {
            put(below(8) == 0 ? 19 : 3, 0);
        }
        for (int i = 0; i < 3 && below(3) == 0 && size > 0; i++) {
            put(1 + below(2), 3);
        }
    }

    private void infix(int kind, int op, int size, int bound) {
        boolean bracket = below(2) == 0;
        if (bracket) {
            put(6, 0);
        }
        expr(kind, size / 2, bound);
        put(op, 0);
        expr(kind, size / 2, bound);
        if (bracket) {
            put(7, 0);
        }
    }

    private void call(int kind, int size, int bound) {
        int r = below(6);
        for (int i = 0; i < 6 && !fits(r, kind); i++) {
            r = (r + 1) % 6;
        }
        if (!fits(r, kind) && below(10) != 0) {
            put(0, 1);
            return;
        }
        put(5, r);
        put(6, 0);
        expr(3, size - 2, bound);
        put(7, 0);
    }

    private boolean fits(int r, int kind) {
        return r == own ? ownKind == kind : compiled[r] && kinds[r] == kind;
    }

    private void loop(int op, int size, int bound) {
        int var = below(3);
        for (int i = 0; i < 3 && (bound >> var & 1) != 0; i++) {
            var = (var + 1) % 3;
        }
        put(op, var);
        put(6, 0);
        expr(4, size / 3, bound);
        put(9, 0);
        expr(op == 22 ? 1 : 2, size - size / 3, bound | 1 << var);
        put(7, 0);
    }
}
