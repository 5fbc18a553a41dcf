/**
 * Rules over a few linked host objects, behind a policy and under a budget.
 *
 * A rule is kept as a list of instructions in the order in which they are
 * carried out, so that evaluating needs a stack of values and a few frames, but
 * no recursion. Every token gives at most one instruction.
 */
public final class GuardedRules {
    public static final int OK = 1, SYNTAX = 2, BINDING = 3, UNKNOWN = 4, CLASH = 5, FIXED = 6, REFUSED = 0;
    public static final int VALUE = 1, NULLERR = 2, DENIED = 3, DIVIDE = 4, DEEP = 5, STOPPED = 6;
    public static final int NUM = 1, BOOL = 2;

    private static final int OBJ = 3, LIST = 4;

    // The kinds of the tokens; an instruction bears the kind of the token that it comes from.
    private static final int NUMBER = 0, DOT = 1, SAFE = 2, IT = 3, VAR = 4, RULE = 5, OPEN = 6, CLOSE = 7;
    private static final int ASK = 8, COLON = 9, OR = 10, AND = 11, NOT = 12, SAME = 13, LESS = 14;
    private static final int PLUS = 15, MINUS = 16, TIMES = 17, OVER = 18, NIL = 19, ANY = 20, ALL = 21, SUM = 22;

    // Instructions that share their token's kind with another one and so need a kind of their own.
    private static final int NEGATE = 23, NEXT = 24;

    private static final int NO_OBJECT = -1, EMPTY_LIST = -1, NO_PLACE = -1;

    private static final int OBJECTS = 8, CLASSES = 3, PROPERTIES = 6, NUMBERS = 3, LINK = 3, FIRST_LIST = 4, ITEMS = 4;
    private static final int NUMBER_CELLS = 24, LISTS = 16, ITEM_CELLS = 64, POLICY_CELLS = 18;

    // The slot behind the last rule takes what is being compiled, so that a finding leaves the rules alone.
    private static final int RULES = 6, DRAFT = 6, RULE_SLOTS = 7, TOKENS = 40, CODE_CELLS = 280, DRAFT_BASE = 240;

    private static final int VARS = 3, FRAMES = 5, LOOPS = 15, UNITS = 40;

    // A frame holds at most one value for each token of its rule.
    private static final int VALUE_CELLS = 200;

    // Between two units a run only goes forward, so it needs a few thousand steps at the very most.
    private static final int STEP_LIMIT = 1000000;

    private static final int WANT_OPERAND = 0, WANT_OPERATOR = 1, WANT_BRACKET = 2, WRONG = 3;

    private static final int WEAKEST = 1, STRENGTH_OR = 2, STRENGTH_AND = 3, STRENGTH_COMPARE = 4;
    private static final int STRENGTH_ADD = 5, STRENGTH_TIMES = 6, STRENGTH_PREFIX = 7, NONE_SETTLES = 8;

    private int objectCount = 0;
    private final int[] classOf = new int[OBJECTS];
    private final int[] numbers = new int[NUMBER_CELLS];
    private final int[] linked = new int[OBJECTS];
    private final int[] listSize = new int[LISTS];
    private final int[] listItems = new int[ITEM_CELLS];
    private final boolean[] forbidden = new boolean[POLICY_CELLS];

    private int tokenCount = 0;
    private final int[] tokenKind = new int[TOKENS];
    private final int[] tokenValue = new int[TOKENS];

    private final int[] ruleKind = new int[RULE_SLOTS];
    private final int[] ruleLength = new int[RULE_SLOTS];
    private final int[] ruleOp = new int[CODE_CELLS];
    private final int[] ruleArg = new int[CODE_CELLS];
    private final int[] ruleTarget = new int[CODE_CELLS];
    private final int[] rulePlace = new int[CODE_CELLS];

    private int compilePlace = NO_PLACE;
    private int leastClash = 0;
    private final int[] openerOf = new int[TOKENS];
    private final int[] codeOf = new int[TOKENS];
    private int stackCount = 0;
    private final int[] stack = new int[TOKENS];
    private int kindCount = 0;
    private final int[] kinds = new int[TOKENS];

    private int depth = 0;
    private final int[] frameRule = new int[FRAMES];
    private final int[] frameNext = new int[FRAMES];
    private final int[] frameIt = new int[FRAMES];
    private int valueCount = 0;
    private final int[] values = new int[VALUE_CELLS];
    private final int[] loopList = new int[LOOPS];
    private final int[] loopIndex = new int[LOOPS];
    private final int[] loopTally = new int[LOOPS];

    private int evalResult = 0;
    private int evalPlace = NO_PLACE;
    private int unitsUsed = 0;

    public GuardedRules() {
    }

    // ---- objects and policy

    public int object(int cls) {
        if (!isClass(cls) || objectCount >= OBJECTS) {
            return -1;
        }
        int o = objectCount;
        classOf[o] = cls;
        linked[o] = NO_OBJECT;
        objectCount = o + 1;
        return o;
    }

    public boolean set(int o, int p, int v) {
        if (!isObject(o) || p < 0 || p >= NUMBERS) {
            return false;
        }
        numbers[o * NUMBERS + p] = v;
        return true;
    }

    public boolean link(int o, int p, int target) {
        if (!isObject(o) || p < LINK || p >= PROPERTIES) {
            return false;
        }
        if (target != NO_OBJECT && !isObject(target)) {
            return false;
        }
        if (p == LINK) {
            linked[o] = target;
            return true;
        }
        int list = listOf(o, p);
        return target == NO_OBJECT ? emptied(list) : appended(list, target);
    }

    public boolean allow(int cls, int p, boolean yes) {
        if (!isClass(cls) || p < 0 || p >= PROPERTIES) {
            return false;
        }
        forbidden[cls * PROPERTIES + p] = !yes;
        return true;
    }

    private boolean isClass(int cls) {
        return cls >= 0 && cls < CLASSES;
    }

    private boolean isObject(int o) {
        return o >= 0 && o < objectCount;
    }

    private boolean isRule(int r) {
        return r >= 0 && r < RULES && ruleKind[r] != 0;
    }

    private int listOf(int o, int p) {
        return o * 2 + p - FIRST_LIST;
    }

    private boolean emptied(int list) {
        listSize[list] = 0;
        return true;
    }

    private boolean appended(int list, int target) {
        int size = listSize[list];
        if (size >= ITEMS) {
            return false;
        }
        listItems[list * ITEMS + size] = target;
        listSize[list] = size + 1;
        return true;
    }

    // ---- tokens

    public boolean token(int kind, int value) {
        if (kind < NUMBER || kind > SUM || tokenCount >= TOKENS || !isValueOf(kind, value)) {
            return false;
        }
        tokenKind[tokenCount] = kind;
        tokenValue[tokenCount] = value;
        tokenCount++;
        return true;
    }

    public int wipe() {
        int removed = tokenCount;
        tokenCount = 0;
        return removed;
    }

    private boolean isValueOf(int kind, int value) {
        switch (kind) {
            case DOT:
            case SAFE:
                return value >= 0 && value < PROPERTIES;
            case RULE:
                return value >= 0 && value < RULES;
            case VAR:
            case ANY:
            case ALL:
            case SUM:
                return value >= 0 && value < VARS;
            default:
                return true;
        }
    }

    // ---- compiling: the findings in their order

    public int compile(int r, int kind) {
        if (r < 0 || r >= RULES || (kind != NUM && kind != BOOL)) {
            return REFUSED;
        }
        compilePlace = syntaxPlace();
        if (compilePlace != NO_PLACE) {
            return SYNTAX;
        }
        compilePlace = bindingPlace();
        if (compilePlace != NO_PLACE) {
            return BINDING;
        }
        compilePlace = unknownPlace(r);
        if (compilePlace != NO_PLACE) {
            return UNKNOWN;
        }
        compilePlace = clashPlace(r, kind);
        if (compilePlace != NO_PLACE) {
            return CLASH;
        }
        if (ruleKind[r] != 0 && ruleKind[r] != kind && isCalledByAnother(r)) {
            compilePlace = 0;
            return FIXED;
        }
        adoptDraft(r, kind);
        return OK;
    }

    public int place() {
        return compilePlace;
    }

    private int unknownPlace(int r) {
        for (int i = 0; i < tokenCount; i++) {
            int callee = tokenValue[i];
            if (tokenKind[i] == RULE && callee != r && !isRule(callee)) {
                return i;
            }
        }
        return NO_PLACE;
    }

    private boolean isCalledByAnother(int r) {
        for (int caller = 0; caller < RULES; caller++) {
            if (caller != r && callsRule(caller, r)) {
                return true;
            }
        }
        return false;
    }

    private boolean callsRule(int caller, int r) {
        int base = caller * TOKENS;
        for (int c = 0; c < ruleLength[caller]; c++) {
            if (ruleOp[base + c] == RULE && ruleArg[base + c] == r) {
                return true;
            }
        }
        return false;
    }

    private void adoptDraft(int r, int kind) {
        int base = r * TOKENS;
        for (int c = 0; c < ruleLength[DRAFT]; c++) {
            ruleOp[base + c] = ruleOp[DRAFT_BASE + c];
            ruleArg[base + c] = ruleArg[DRAFT_BASE + c];
            ruleTarget[base + c] = ruleTarget[DRAFT_BASE + c];
            rulePlace[base + c] = rulePlace[DRAFT_BASE + c];
        }
        ruleLength[r] = ruleLength[DRAFT];
        ruleKind[r] = kind;
        tokenCount = 0;
    }

    // ---- compiling: syntax. The stack holds the tokens that still wait for a : or a closing bracket.

    private int syntaxPlace() {
        stackCount = 0;
        int want = WANT_OPERAND;
        for (int i = 0; i < tokenCount; i++) {
            want = wantAfter(i, want);
            if (want == WRONG) {
                return i;
            }
        }
        return want == WANT_OPERATOR && stackCount == 0 ? NO_PLACE : tokenCount;
    }

    private int wantAfter(int i, int want) {
        if (want == WANT_BRACKET) {
            return tokenKind[i] == OPEN ? WANT_OPERAND : WRONG;
        }
        return want == WANT_OPERAND ? readOperand(i) : readOperator(i);
    }

    private int readOperand(int i) {
        switch (tokenKind[i]) {
            case NUMBER:
            case IT:
            case VAR:
            case NIL:
                return WANT_OPERATOR;
            case MINUS:
            case NOT:
                return WANT_OPERAND;
            case OPEN:
                pushToken(i);
                return WANT_OPERAND;
            case RULE:
            case ANY:
            case ALL:
            case SUM:
                pushToken(i);
                return WANT_BRACKET;
            default:
                return WRONG;
        }
    }

    private int readOperator(int i) {
        switch (tokenKind[i]) {
            case DOT:
            case SAFE:
                return WANT_OPERATOR;
            case OR:
            case AND:
            case SAME:
            case LESS:
            case PLUS:
            case MINUS:
            case TIMES:
            case OVER:
                return WANT_OPERAND;
            case ASK:
                pushToken(i);
                return WANT_OPERAND;
            case COLON:
                return readColon(i);
            case CLOSE:
                return readClose(i);
            default:
                return WRONG;
        }
    }

    private int readColon(int i) {
        if (stackCount == 0) {
            return WRONG;
        }
        int opener = stack[stackCount - 1];
        openerOf[i] = opener;
        if (tokenKind[opener] == ASK) {
            stackCount--;
            return WANT_OPERAND;
        }
        if (isQuantifier(opener)) {
            // From here on the closing bracket may come, which the quantifier itself doesn't let pass.
            stack[stackCount - 1] = i;
            return WANT_OPERAND;
        }
        return WRONG;
    }

    private int readClose(int i) {
        if (stackCount == 0) {
            return WRONG;
        }
        stackCount--;
        int opener = stack[stackCount];
        int kind = tokenKind[opener];
        openerOf[i] = kind == COLON ? openerOf[opener] : opener;
        return kind == COLON || kind == OPEN || kind == RULE ? WANT_OPERATOR : WRONG;
    }

    private boolean isQuantifier(int i) {
        return tokenKind[i] >= ANY;
    }

    private void pushToken(int i) {
        stack[stackCount] = i;
        stackCount++;
    }

    // ---- compiling: bound variables

    private int bindingPlace() {
        int bound = 0;
        for (int i = 0; i < tokenCount; i++) {
            int bit = 1 << tokenValue[i];
            if (tokenKind[i] == VAR && (bound & bit) == 0) {
                return i;
            }
            if (isQuantifier(i) && (bound & bit) != 0) {
                return i;
            }
            bound = boundAfter(i, bound);
        }
        return NO_PLACE;
    }

    private int boundAfter(int i, int bound) {
        if (tokenKind[i] != COLON && tokenKind[i] != CLOSE) {
            return bound;
        }
        int opener = openerOf[i];
        if (!isQuantifier(opener)) {
            return bound;
        }
        int bit = 1 << tokenValue[opener];
        return tokenKind[i] == COLON ? bound | bit : bound & ~bit;
    }

    // ---- compiling: kinds and instructions. The stack holds the tokens whose right side isn't read yet.

    private int clashPlace(int r, int kind) {
        stackCount = 0;
        kindCount = 0;
        ruleLength[DRAFT] = 0;
        leastClash = tokenCount + 1;
        for (int i = 0; i < tokenCount; i++) {
            int level = settlesFrom(i);
            settle(level);
            int calleeKind = tokenKind[i] == CLOSE ? kindOfCallee(openerOf[i], r, kind) : 0;
            translate(i, calleeKind);
        }
        settle(WEAKEST);
        demand(kinds[0] == kind, tokenCount);
        return leastClash > tokenCount ? NO_PLACE : leastClash;
    }

    private int kindOfCallee(int opener, int r, int kind) {
        if (tokenKind[opener] != RULE) {
            return 0;
        }
        int callee = tokenValue[opener];
        return callee == r ? kind : ruleKind[callee];
    }

    /** The least strength of the waiting operators whose right side ends before token i. */
    private int settlesFrom(int i) {
        switch (tokenKind[i]) {
            case COLON:
            case CLOSE:
                return WEAKEST;
            case ASK:
                return STRENGTH_OR;
            default:
                int strength = strengthOf(i);
                return strength == 0 || strength == STRENGTH_PREFIX ? NONE_SETTLES : strength;
        }
    }

    /** How strongly an operator binds; 0 for a token that waits for its own : or closing bracket. */
    private int strengthOf(int i) {
        switch (tokenKind[i]) {
            case COLON:
                return WEAKEST;
            case OR:
                return STRENGTH_OR;
            case AND:
                return STRENGTH_AND;
            case SAME:
            case LESS:
                return STRENGTH_COMPARE;
            case PLUS:
                return STRENGTH_ADD;
            case MINUS:
                return isPrefix(i) ? STRENGTH_PREFIX : STRENGTH_ADD;
            case TIMES:
            case OVER:
                return STRENGTH_TIMES;
            case NOT:
                return STRENGTH_PREFIX;
            default:
                return 0;
        }
    }

    private boolean isPrefix(int i) {
        if (tokenKind[i] == NOT) {
            return true;
        }
        return tokenKind[i] == MINUS && (i == 0 || !endsOperand(i - 1));
    }

    private boolean endsOperand(int i) {
        switch (tokenKind[i]) {
            case NUMBER:
            case DOT:
            case SAFE:
            case IT:
            case VAR:
            case CLOSE:
            case NIL:
                return true;
            default:
                return false;
        }
    }

    private void settle(int level) {
        for (int left = stackCount; left > 0 && strengthOf(stack[left - 1]) >= level; left--) {
            stackCount = left - 1;
            int i = stack[stackCount];
            if (isPrefix(i)) {
                applyPrefix(i);
            } else if (tokenKind[i] == COLON) {
                applyChoice(i);
            } else {
                applyBinary(i);
            }
        }
    }

    private void applyPrefix(int i) {
        boolean not = tokenKind[i] == NOT;
        int kind = not ? BOOL : NUM;
        demand(kinds[kindCount - 1] == kind, i);
        emit(not ? NOT : NEGATE, 0, i);
        kinds[kindCount - 1] = kind;
    }

    private void applyChoice(int i) {
        kindCount -= 2;
        int ask = openerOf[i];
        demand(kinds[kindCount - 1] == BOOL, ask);
        demand(kinds[kindCount] == kinds[kindCount + 1], ask);
        aimHere(i);
        kinds[kindCount - 1] = kinds[kindCount];
    }

    private void applyBinary(int i) {
        kindCount--;
        int left = kinds[kindCount - 1];
        int right = kinds[kindCount];
        int op = tokenKind[i];
        if (op == OR || op == AND) {
            demand(left == BOOL && right == BOOL, i);
            aimHere(i);
        } else {
            demand(op == SAME ? left == right && left != LIST : left == NUM && right == NUM, i);
            emit(op, 0, i);
        }
        kinds[kindCount - 1] = op >= PLUS ? NUM : BOOL;
    }

    private void translate(int i, int calleeKind) {
        switch (tokenKind[i]) {
            case NUMBER:
                translateOperand(i, NUM);
                break;
            case IT:
            case VAR:
            case NIL:
                translateOperand(i, OBJ);
                break;
            case DOT:
            case SAFE:
                translateProperty(i);
                break;
            case OPEN:
                translateOpen(i);
                break;
            case COLON:
                translateColon(i);
                break;
            case CLOSE:
                translateClose(openerOf[i], calleeKind);
                break;
            case ASK:
            case OR:
            case AND:
                // These jump over what isn't looked at, so they stand between their two sides.
                codeOf[i] = emit(tokenKind[i], 0, i);
                pushToken(i);
                break;
            default:
                pushToken(i);
                break;
        }
    }

    private void translateOperand(int i, int kind) {
        emit(tokenKind[i], tokenValue[i], i);
        kinds[kindCount] = kind;
        kindCount++;
    }

    private void translateProperty(int i) {
        int p = tokenValue[i];
        demand(kinds[kindCount - 1] == OBJ, i);
        emit(tokenKind[i], p, i);
        kinds[kindCount - 1] = p < LINK ? NUM : p == LINK ? OBJ : LIST;
    }

    private void translateOpen(int i) {
        boolean ofAnother = i > 0 && (tokenKind[i - 1] == RULE || isQuantifier(i - 1));
        if (!ofAnother) {
            pushToken(i);
        }
    }

    private void translateColon(int i) {
        int opener = openerOf[i];
        if (isQuantifier(opener)) {
            codeOf[opener] = emit(tokenKind[opener], tokenValue[opener], opener);
            return;
        }
        codeOf[i] = emit(COLON, 0, i);
        aimHere(opener);
        stack[stackCount - 1] = i;
    }

    private void translateClose(int opener, int calleeKind) {
        stackCount--;
        if (tokenKind[opener] == RULE) {
            demand(kinds[kindCount - 1] == OBJ, opener);
            emit(RULE, tokenValue[opener], opener);
            kinds[kindCount - 1] = calleeKind;
        } else if (isQuantifier(opener)) {
            int kind = tokenKind[opener] == SUM ? NUM : BOOL;
            kindCount--;
            demand(kinds[kindCount - 1] == LIST && kinds[kindCount] == kind, opener);
            emit(NEXT, codeOf[opener], opener);
            aimHere(opener);
            kinds[kindCount - 1] = kind;
        }
    }

    private void demand(boolean met, int place) {
        if (!met && place < leastClash) {
            leastClash = place;
        }
    }

    private int emit(int op, int arg, int place) {
        int c = ruleLength[DRAFT];
        ruleOp[DRAFT_BASE + c] = op;
        ruleArg[DRAFT_BASE + c] = arg;
        ruleTarget[DRAFT_BASE + c] = 0;
        rulePlace[DRAFT_BASE + c] = place;
        ruleLength[DRAFT] = c + 1;
        return c;
    }

    /** Lets the jump of token i lead to the instruction that comes next. */
    private void aimHere(int i) {
        ruleTarget[DRAFT_BASE + codeOf[i]] = ruleLength[DRAFT];
    }

    // ---- evaluating

    public int eval(int r, int o) {
        if (!isRule(r) || !isObject(o)) {
            return REFUSED;
        }
        unitsUsed = 0;
        valueCount = 0;
        depth = 0;
        enterRule(r, o);
        int outcome = run();
        boolean done = outcome == VALUE;
        evalResult = done ? values[0] : 0;
        // The outermost rule stands behind the instruction that failed or that called the failing rule.
        evalPlace = done ? NO_PLACE : rulePlace[r * TOKENS + frameNext[0] - 1];
        return outcome;
    }

    public int result() {
        return evalResult;
    }

    public int errorAt() {
        return evalPlace;
    }

    public int used() {
        return unitsUsed;
    }

    private void enterRule(int r, int o) {
        frameRule[depth] = r;
        frameNext[depth] = 0;
        frameIt[depth] = o;
        depth++;
    }

    private int run() {
        for (int step = 0; step < STEP_LIMIT; step++) {
            int frame = depth - 1;
            int r = frameRule[frame];
            int next = frameNext[frame];
            if (next < ruleLength[r]) {
                frameNext[frame] = next + 1;
                int outcome = perform(r * TOKENS + next);
                if (outcome != VALUE) {
                    return outcome;
                }
            } else if (frame == 0) {
                return VALUE;
            } else {
                depth = frame;
            }
        }
        return STOPPED;
    }

    /** Carries out one instruction; answers VALUE if the run goes on, else the error. */
    private int perform(int c) {
        switch (ruleOp[c]) {
            case NUMBER:
                return pushValue(ruleArg[c]);
            case IT:
                return pushValue(frameIt[depth - 1]);
            case NIL:
                return pushValue(NO_OBJECT);
            case VAR:
                return pushBound(ruleArg[c]);
            case DOT:
            case SAFE:
                return readProperty(ruleOp[c], ruleArg[c]);
            case RULE:
                return callRule(ruleArg[c]);
            case ASK:
            case COLON:
            case OR:
            case AND:
                return branch(c);
            case NOT:
                values[valueCount - 1] = 1 - values[valueCount - 1];
                return VALUE;
            case NEGATE:
                values[valueCount - 1] = -values[valueCount - 1];
                return VALUE;
            case ANY:
            case ALL:
            case SUM:
                return startLoop(c);
            case NEXT:
                return endRound(c - c % TOKENS + ruleArg[c]);
            default:
                return combine(ruleOp[c]);
        }
    }

    private int pushValue(int v) {
        values[valueCount] = v;
        valueCount++;
        return VALUE;
    }

    private int popValue() {
        valueCount--;
        return values[valueCount];
    }

    private int pushBound(int v) {
        int loop = loopOf(v);
        return pushValue(listItems[loopList[loop] * ITEMS + loopIndex[loop]]);
    }

    private int readProperty(int op, int p) {
        int o = popValue();
        if (o == NO_OBJECT) {
            return op == DOT ? NULLERR : pushValue(p < LINK ? 0 : p == LINK ? NO_OBJECT : EMPTY_LIST);
        }
        if (forbidden[classOf[o] * PROPERTIES + p]) {
            return DENIED;
        }
        int value = p < LINK ? numbers[o * NUMBERS + p] : p == LINK ? linked[o] : listOf(o, p);
        return pushValue(value);
    }

    private int callRule(int r) {
        int o = popValue();
        if (o == NO_OBJECT) {
            return NULLERR;
        }
        if (depth >= FRAMES) {
            return DEEP;
        }
        if (unitsUsed >= UNITS) {
            return STOPPED;
        }
        unitsUsed++;
        enterRule(r, o);
        return VALUE;
    }

    private int branch(int c) {
        int op = ruleOp[c];
        boolean yes = op != COLON && values[valueCount - 1] != 0;
        boolean jumps = op == COLON || (op == OR ? yes : !yes);
        // && and || keep the left side as their value when they jump.
        boolean drops = op == ASK || (op != COLON && !jumps);
        if (drops) {
            valueCount--;
        }
        if (jumps) {
            frameNext[depth - 1] = ruleTarget[c];
        }
        return VALUE;
    }

    private int combine(int op) {
        int right = popValue();
        int left = popValue();
        switch (op) {
            case SAME:
                return pushValue(left == right ? 1 : 0);
            case LESS:
                return pushValue(left < right ? 1 : 0);
            case PLUS:
                return pushValue(left + right);
            case MINUS:
                return pushValue(left - right);
            case TIMES:
                return pushValue(left * right);
            default:
                return right == 0 ? DIVIDE : pushValue(left / right);
        }
    }

    // ---- evaluating: loops. No rule binds a variable twice at once, so frame and variable tell the loop.

    private int loopOf(int v) {
        return (depth - 1) * VARS + v;
    }

    private int startLoop(int start) {
        int loop = loopOf(ruleArg[start]);
        loopList[loop] = popValue();
        loopIndex[loop] = -1;
        loopTally[loop] = ruleOp[start] == ALL ? 1 : 0;
        return nextRound(start, loop, false);
    }

    private int endRound(int start) {
        int loop = loopOf(ruleArg[start]);
        int value = popValue();
        int op = ruleOp[start];
        loopTally[loop] = op == SUM ? loopTally[loop] + value : value;
        boolean decided = (op == ANY && value != 0) || (op == ALL && value == 0);
        return nextRound(start, loop, decided);
    }

    private int nextRound(int start, int loop, boolean decided) {
        int list = loopList[loop];
        int index = loopIndex[loop] + 1;
        if (decided || list == EMPTY_LIST || index >= listSize[list]) {
            frameNext[depth - 1] = ruleTarget[start];
            return pushValue(loopTally[loop]);
        }
        if (unitsUsed >= UNITS) {
            return STOPPED;
        }
        unitsUsed++;
        loopIndex[loop] = index;
        frameNext[depth - 1] = start % TOKENS + 1;
        return VALUE;
    }
}
