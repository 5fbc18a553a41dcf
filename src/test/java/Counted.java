/** A GuardedRules with its face, which refuses to be used for more calls than the document promises. */
final class Counted {
    static final int CALLS = 512;

    private final GuardedRules x = new GuardedRules();
    private int calls = 0;

    private GuardedRules next() {
        calls++;
        if (calls > CALLS) {
            throw new IllegalStateException("this test looks at an answer after the " + CALLS + "th call");
        }
        return x;
    }

    int calls() {
        return calls;
    }

    int object(int cls) {
        return next().object(cls);
    }

    boolean set(int o, int p, int v) {
        return next().set(o, p, v);
    }

    boolean link(int o, int p, int target) {
        return next().link(o, p, target);
    }

    boolean allow(int cls, int p, boolean yes) {
        return next().allow(cls, p, yes);
    }

    boolean token(int kind, int value) {
        return next().token(kind, value);
    }

    int wipe() {
        return next().wipe();
    }

    int compile(int r, int kind) {
        return next().compile(r, kind);
    }

    int place() {
        return next().place();
    }

    int eval(int r, int o) {
        return next().eval(r, o);
    }

    int result() {
        return next().result();
    }

    int errorAt() {
        return next().errorAt();
    }

    int used() {
        return next().used();
    }
}
