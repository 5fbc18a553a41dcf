import java.util.ArrayList;
import java.util.List;

/**
 * Promise 14: "Where nothing else is said, a call that is refused (by a code below 0 that is named, or by false) changes
 * nothing."
 *
 * A story of calls is told again and again on new objects, each time with one call put in somewhere. If that call was
 * refused, all answers behind it are as in the story without it. A compile that found something may change the answers of
 * place alone, an eval those of result, errorAt and used.
 */
public final class NothingChangesTest {
    private static final int MIN = Integer.MIN_VALUE, MAX = Integer.MAX_VALUE;

    private record Call(String method, int a, int b, int c) {
        int on(GuardedRules x) {
            switch (method) {
                case "object": return x.object(a);
                case "set": return x.set(a, b, c) ? 1 : 0;
                case "link": return x.link(a, b, c) ? 1 : 0;
                case "allow": return x.allow(a, b, c == 1) ? 1 : 0;
                case "token": return x.token(a, b) ? 1 : 0;
                case "wipe": return x.wipe();
                case "compile": return x.compile(a, b);
                case "place": return x.place();
                case "eval": return x.eval(a, b);
                case "result": return x.result();
                case "errorAt": return x.errorAt();
                default: return x.used();
            }
        }

        /** Whether the call, having answered this, is bound to have changed nothing but the answers that depend on it. */
        boolean isIdle(int answer) {
            switch (method) {
                case "object": return answer == -1;
                case "set": case "link": case "allow": case "token": case "wipe": return answer == 0;
                case "compile": return answer != GuardedRules.OK;
                default: return true;
            }
        }

        /** Whether this call, put in with this answer, may change what another method answers. */
        boolean mayChange(String other, int answer) {
            if (answer == GuardedRules.REFUSED) {
                return false;
            }
            return method.equals("compile") && other.equals("place")
                || method.equals("eval") && (other.equals("result") || other.equals("errorAt") || other.equals("used"));
        }
    }

    private static final List<Call> story = new ArrayList<>();
    private static final List<Call> tried = new ArrayList<>();
    private static int looked = 0, wrong = 0;

    public static void main(String[] args) {
        tellStory();
        tryCalls();
        int[] due = new int[story.size()];
        GuardedRules x = new GuardedRules();
        for (int i = 0; i < due.length; i++) {
            due[i] = story.get(i).on(x);
        }
        for (int at = 0; at <= due.length; at++) {
            // Every call is tried at every third place; neighbours in the list of calls take turns.
            for (int t = at % 3; t < tried.size(); t += 3) {
                putIn(tried.get(t), at, due);
            }
        }
        System.out.println("NothingChangesTest: a story of " + due.length + " calls told " + looked + " times, " + wrong + " not as due");
        if (wrong != 0 || looked == 0 || due.length >= Counted.CALLS) {
            System.exit(1);
        }
    }

    private static void putIn(Call call, int at, int[] due) {
        GuardedRules x = new GuardedRules();
        for (int i = 0; i < at; i++) {
            story.get(i).on(x);
        }
        int answer = call.on(x);
        if (!call.isIdle(answer)) {
            return;
        }
        looked++;
        boolean covered = false;
        for (int i = at; i < due.length && wrong < 20; i++) {
            Call next = story.get(i);
            int got = next.on(x);
            if (next.method().equals(call.method()) && got != GuardedRules.REFUSED) {
                covered = true;
            }
            if (got != due[i] && (covered || !call.mayChange(next.method(), answer))) {
                wrong++;
                System.out.println(call + ", put in at " + at + ", lets " + next + " answer " + got + ", due is " + due[i]);
                return;
            }
        }
    }

    private static void tell(String method, int a, int b, int c) {
        story.add(new Call(method, a, b, c));
    }

    private static void type(String text) {
        for (String word : text.split(" ")) {
            int[] token = Bench.tokenOf(word, 0);
            tell("token", token[0], token[1], 0);
        }
    }

    private static void compile(int r, int kind, String text) {
        type(text);
        tell("compile", r, kind, 0);
        tell("place", 0, 0, 0);
    }

    private static void eval(int r, int o) {
        tell("eval", r, o, 0);
        tell("result", 0, 0, 0);
        tell("errorAt", 0, 0, 0);
        tell("used", 0, 0, 0);
    }

    private static void tellStory() {
        for (int cls = 0; cls < 3; cls++) {
            tell("object", cls, 0, 0);
        }
        tell("set", 0, 0, 5);
        tell("set", 1, 0, -3);
        tell("set", 2, 2, MAX);
        tell("link", 0, 3, 1);
        tell("link", 1, 3, 2);
        int[] items = {1, 2, 1, 0};
        for (int item : items) {
            tell("link", 0, 4, item);
        }
        tell("link", 2, 5, 2);
        tell("allow", 2, 1, 0);
        compile(0, 1, "sum0 ( it .4 : v0 .0 + it .1 )");
        eval(0, 0);
        compile(1, 2, "it .3 .3 .1 == 0");
        eval(1, 0);
        compile(2, 1, "r1 ( it ) ? 1 : r0 ( it )");
        eval(2, 1);
        compile(3, 1, "1 + ( 2");
        compile(3, 1, "- it ?.2 )");
        compile(0, 2, "1 == 1");
        tell("wipe", 0, 0, 0);
        compile(5, 1, "v1 .0");
        tell("wipe", 0, 0, 0);
        eval(3, 2);
        for (int o = 3; o < 9; o++) {
            tell("object", 0, 0, 0);
        }
        tell("allow", 2, 1, 1);
        compile(4, 1, "r4 ( it .3 ) " + Bench.times(18, "+ 1"));
        tell("token", 0, 0, 0);
        tell("wipe", 0, 0, 0);
        compile(4, 1, "1 + r4 ( it .3 )");
        type(Bench.times(39, "-") + " 8");
        tell("token", 0, 0, 0);
        tell("link", 2, 3, 0);
        for (int r = 0; r < 5; r++) {
            for (int o = 0; o < 3; o++) {
                eval(r, o);
            }
        }
        tell("compile", 5, 1, 0);
        tell("place", 0, 0, 0);
        eval(5, 7);
        tell("wipe", 0, 0, 0);
    }

    private static void tryCalls() {
        int[] some = {MIN, -2, -1, 0, 1, 2, 3, 5, 6, 7, 8, MAX};
        for (int a : some) {
            tried.add(new Call("object", a, 0, 0));
            for (int b : some) {
                tried.add(new Call("set", a, b, 99));
                tried.add(new Call("link", a, 3, b));
                tried.add(new Call("link", a, 4, b));
                tried.add(new Call("link", a, b, 0));
                tried.add(new Call("link", a, b, -1));
                tried.add(new Call("allow", a, b, 0));
                tried.add(new Call("allow", a, b, 1));
                tried.add(new Call("compile", a, b, 0));
                tried.add(new Call("eval", a, b, 0));
            }
        }
        for (int kind = -1; kind < 24; kind++) {
            for (int value = -1; value < 7; value++) {
                tried.add(new Call("token", kind, value, 0));
            }
        }
        String[] askers = {"wipe", "place", "result", "errorAt", "used"};
        for (String asker : askers) {
            tried.add(new Call(asker, 0, 0, 0));
        }
    }
}
