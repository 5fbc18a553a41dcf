import java.util.Arrays;

/**
 * Every row of a few tokens that can begin an expr, and one token more: what compile finds there, and where, is what the
 * model finds, which follows the document's grammar in all its ways.
 */
public final class ShortTokensTest {
    private static final String[] EVERY = {"1", "it", "v0", "null", "r5", "r1", "any0", "all1", "sum0", "(", ")", "?", ":", "||", "&&", "!",
        "==", "<", "+", "-", "*", "/", ".0", ".3", ".4", "?.2", "?.5"};
    private static final String[] FEW = {"1", "it", "v0", "r5", "any0", "(", ")", "?", ":", "-", "==", ".4"};
    private static final String[] CORE = {"1", "sum0", "(", ")", "?", ":", "-"};

    private static int looked = 0, wrong = 0;

    private GuardedRules x = new GuardedRules();
    private Model m = new Model();
    private int calls = 0;
    private int finding = 0;
    private final String[] words;
    private final String[] row;

    private ShortTokensTest(String[] words, int length) {
        this.words = words;
        row = new String[length];
    }

    public static void main(String[] args) {
        new ShortTokensTest(EVERY, 4).extend(0);
        new ShortTokensTest(FEW, 6).extend(0);
        new ShortTokensTest(CORE, 9).extend(0);
        System.out.println("ShortTokensTest: " + looked + " rows of tokens, " + wrong + " not as due");
        if (wrong != 0 || looked == 0) {
            System.exit(1);
        }
    }

    private void extend(int count) {
        for (int kind = GuardedRules.NUM; kind <= GuardedRules.BOOL; kind++) {
            compare(count, kind);
        }
        if (count == row.length || cannotGoOn(count) || wrong > 10) {
            return;
        }
        for (String word : words) {
            row[count] = word;
            extend(count + 1);
        }
    }

    private boolean cannotGoOn(int count) {
        return finding == GuardedRules.SYNTAX && m.place() < count;
    }

    private void compare(int count, int kind) {
        if (calls + count + 3 > Counted.CALLS) {
            x = new GuardedRules();
            m = new Model();
            calls = 0;
        }
        x.wipe();
        m.wipe();
        for (int i = 0; i < count; i++) {
            int[] token = Bench.tokenOf(row[i], 0);
            x.token(token[0], token[1]);
            m.token(token[0], token[1]);
        }
        calls += count + 3;
        // Rule 5 is the only one, so RULE 5 in a row is the rule itself.
        int found = x.compile(5, kind);
        finding = m.compile(5, kind);
        looked++;
        if (found != finding || x.place() != m.place()) {
            wrong++;
            System.out.println("kind " + kind + " of " + String.join(" ", Arrays.copyOf(row, count)) + ": found " + found + " at "
                + x.place() + ", due is " + finding + " at " + m.place());
        }
    }
}
