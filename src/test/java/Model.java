import java.util.ArrayDeque;
import java.util.ArrayList;
import java.util.Arrays;
import java.util.HashMap;
import java.util.HashSet;
import java.util.List;
import java.util.Map;
import java.util.Set;
import java.util.TreeSet;

/**
 * The document's words once more, written for likeness to the document and not for the rules of
 * LANGUAGE.md: the grammar as a table, rules as trees, evaluation by recursion.
 */
final class Model {
    private static final int OBJ = 3, LIST = 4;

    /** One place of the tree: the token that it belongs to and its parts. */
    private static final class Node {
        final int at, kind, value;
        final boolean prefix;
        final Node[] parts;

        Node(int at, int[] token, boolean prefix, Node... parts) {
            this.at = at;
            this.kind = token[0];
            this.value = token[1];
            this.prefix = prefix;
            this.parts = parts;
        }
    }

    private static final class Thing {
        final int cls;
        final int[] numbers = new int[3];
        Thing link;
        final List<List<Thing>> lists = List.of(new ArrayList<>(), new ArrayList<>());

        Thing(int cls) {
            this.cls = cls;
        }
    }

    private static final class Failure extends RuntimeException {
        private static final long serialVersionUID = 1;
        final int error, at;

        Failure(int error, int at) {
            super(null, null, false, false);
            this.error = error;
            this.at = at;
        }
    }

    private final List<Thing> things = new ArrayList<>();
    private final Set<Integer> forbidden = new HashSet<>();
    private List<int[]> tokens = new ArrayList<>();
    private final Node[] rules = new Node[6];
    private final int[] ruleKinds = new int[6];
    private int place = -1, result = 0, errorAt = -1, used = 0;

    int object(int cls) {
        if (cls < 0 || cls > 2 || things.size() == 8) {
            return -1;
        }
        things.add(new Thing(cls));
        return things.size() - 1;
    }

    boolean set(int o, int p, int v) {
        if (!isThing(o) || p < 0 || p > 2) {
            return false;
        }
        things.get(o).numbers[p] = v;
        return true;
    }

    boolean link(int o, int p, int target) {
        if (!isThing(o) || p < 3 || p > 5 || target != -1 && !isThing(target)) {
            return false;
        }
        Thing thing = target == -1 ? null : things.get(target);
        if (p == 3) {
            things.get(o).link = thing;
            return true;
        }
        List<Thing> list = things.get(o).lists.get(p - 4);
        if (thing == null) {
            list.clear();
            return true;
        }
        return list.size() < 4 && list.add(thing);
    }

    boolean allow(int cls, int p, boolean yes) {
        if (cls < 0 || cls > 2 || p < 0 || p > 5) {
            return false;
        }
        if (yes) {
            forbidden.remove(cls * 10 + p);
        } else {
            forbidden.add(cls * 10 + p);
        }
        return true;
    }

    boolean token(int kind, int value) {
        int[] counts = {0, 6, 6, 0, 3, 6, 0, 0, 0, 0, 0, 0, 0, 0, 0, 0, 0, 0, 0, 0, 3, 3, 3};
        if (kind < 0 || kind > 22 || tokens.size() == 40) {
            return false;
        }
        if (counts[kind] != 0 && (value < 0 || value >= counts[kind])) {
            return false;
        }
        return tokens.add(new int[] {kind, value});
    }

    int wipe() {
        int count = tokens.size();
        tokens = new ArrayList<>();
        return count;
    }

    int place() {
        return place;
    }

    int result() {
        return result;
    }

    int errorAt() {
        return errorAt;
    }

    int used() {
        return used;
    }

    private boolean isThing(int o) {
        return o >= 0 && o < things.size();
    }

    // ---- compile

    int compile(int r, int kind) {
        if (r < 0 || r > 5 || kind < 1 || kind > 2) {
            return 0;
        }
        place = syntaxPlace();
        if (place >= 0) {
            return 2;
        }
        next = 0;
        Node tree = expr();
        Set<Integer> wrong = new TreeSet<>();
        looseVars(tree, Set.of(), wrong);
        if (!wrong.isEmpty()) {
            place = wrong.iterator().next();
            return 3;
        }
        for (int i = 0; i < tokens.size(); i++) {
            int callee = tokens.get(i)[1];
            if (tokens.get(i)[0] == 5 && callee != r && rules[callee] == null) {
                place = i;
                return 4;
            }
        }
        int[] kindsNow = ruleKinds.clone();
        kindsNow[r] = kind;
        if (kindOf(tree, kindsNow, wrong) != kind) {
            wrong.add(tokens.size());
        }
        if (!wrong.isEmpty()) {
            place = wrong.iterator().next();
            return 5;
        }
        for (int other = 0; other < 6; other++) {
            if (rules[r] != null && ruleKinds[r] != kind && other != r && rules[other] != null && calls(rules[other], r)) {
                place = 0;
                return 6;
            }
        }
        rules[r] = tree;
        ruleKinds[r] = kind;
        tokens = new ArrayList<>();
        place = -1;
        return 1;
    }

    private static boolean calls(Node n, int r) {
        return n.kind == 5 && n.value == r || Arrays.stream(n.parts).anyMatch(part -> calls(part, r));
    }

    /** The document's grammar; small letters are rules of it, numbers are kinds of tokens, | parts the ways. */
    private static final String[] GRAMMAR = {
        "expr = or choice", "choice = | 8 expr 9 expr",
        "or = and ors", "ors = | 10 and ors",
        "and = cmp ands", "ands = | 11 cmp ands",
        "cmp = add cmps", "cmps = | 13 add cmps | 14 add cmps",
        "add = term adds", "adds = | 15 term adds | 16 term adds",
        "term = unary terms", "terms = | 17 unary terms | 18 unary terms",
        "unary = 16 unary | 12 unary | prim navs", "navs = | 1 navs | 2 navs",
        "prim = 0 | 3 | 4 | 19 | 6 expr 7 | 5 6 expr 7 | 20 6 expr 9 expr 7 | 21 6 expr 9 expr 7 | 22 6 expr 9 expr 7",
    };

    /** Follows every way of reading the tokens at once; a way is what must still come. */
    private int syntaxPlace() {
        Set<List<String>> ways = opened(Set.of(List.of("expr")));
        for (int i = 0; i < tokens.size(); i++) {
            Set<List<String>> after = new HashSet<>();
            for (List<String> way : ways) {
                if (!way.isEmpty() && way.get(0).equals("" + tokens.get(i)[0])) {
                    after.add(way.subList(1, way.size()));
                }
            }
            if (after.isEmpty()) {
                return i;
            }
            ways = opened(after);
        }
        return ways.contains(List.of()) ? -1 : tokens.size();
    }

    private static final Map<String, List<List<String>>> CHOICES = new HashMap<>();

    static {
        for (String line : GRAMMAR) {
            List<List<String>> choices = new ArrayList<>();
            for (String choice : line.substring(line.indexOf('=') + 1).split("\\|", -1)) {
                choices.add(choice.isBlank() ? List.of() : Arrays.asList(choice.trim().split(" ")));
            }
            CHOICES.put(line.substring(0, line.indexOf(' ')), choices);
        }
    }

    /** The ways with a token, or nothing, in front. */
    private static Set<List<String>> opened(Set<List<String>> ways) {
        Set<List<String>> done = new HashSet<>();
        ArrayDeque<List<String>> open = new ArrayDeque<>(ways);
        while (!open.isEmpty()) {
            List<String> way = open.pop();
            List<List<String>> choices = way.isEmpty() ? null : CHOICES.get(way.get(0));
            if (choices == null) {
                done.add(way);
                continue;
            }
            for (List<String> choice : choices) {
                List<String> longer = new ArrayList<>(choice);
                longer.addAll(way.subList(1, way.size()));
                open.push(longer);
            }
        }
        return done;
    }

    // ---- the tree of tokens that are an expr

    private int next;

    private int ahead() {
        return next < tokens.size() ? tokens.get(next)[0] : -1;
    }

    private Node expr() {
        Node c = level(0);
        if (ahead() != 8) {
            return c;
        }
        int at = next++;
        Node a = expr();
        next++;
        Node b = expr();
        return new Node(at, tokens.get(at), false, c, a, b);
    }

    private static final int[][] LEVELS = {{10, 10}, {11, 11}, {13, 14}, {15, 16}, {17, 18}};

    private Node level(int depth) {
        if (depth == LEVELS.length) {
            return unary();
        }
        Node left = level(depth + 1);
        while (ahead() == LEVELS[depth][0] || ahead() == LEVELS[depth][1]) {
            int at = next++;
            Node right = level(depth + 1);
            left = new Node(at, tokens.get(at), false, left, right);
        }
        return left;
    }

    private Node unary() {
        if (ahead() == 16 || ahead() == 12) {
            int at = next++;
            Node part = unary();
            return new Node(at, tokens.get(at), true, part);
        }
        Node n = prim();
        while (ahead() == 1 || ahead() == 2) {
            n = new Node(next, tokens.get(next), false, n);
            next++;
        }
        return n;
    }

    private Node prim() {
        int at = next++;
        int[] token = tokens.get(at);
        if (token[0] == 6) {
            Node n = expr();
            next++;
            return n;
        }
        if (token[0] != 5 && token[0] < 20) {
            return new Node(at, token, false);
        }
        next++;
        Node first = expr();
        Node body = token[0] == 5 ? null : bodyBehindColon();
        next++;
        return body == null ? new Node(at, token, false, first) : new Node(at, token, false, first, body);
    }

    private Node bodyBehindColon() {
        next++;
        return expr();
    }

    private static void looseVars(Node n, Set<Integer> bound, Set<Integer> wrong) {
        boolean isLoop = n.kind >= 20;
        if (n.kind == 4 && !bound.contains(n.value) || isLoop && bound.contains(n.value)) {
            wrong.add(n.at);
        }
        for (int i = 0; i < n.parts.length; i++) {
            Set<Integer> inner = new HashSet<>(bound);
            if (isLoop && i == 1) {
                inner.add(n.value);
            }
            looseVars(n.parts[i], inner, wrong);
        }
    }

    private static int kindOf(Node n, int[] ruleKinds, Set<Integer> wrong) {
        int[] k = new int[n.parts.length];
        for (int i = 0; i < k.length; i++) {
            k[i] = kindOf(n.parts[i], ruleKinds, wrong);
        }
        boolean met = true;
        int kind = 0;
        switch (n.kind) {
            case 0: kind = 1; break;
            case 3: case 4: case 19: kind = OBJ; break;
            case 1: case 2: kind = n.value < 3 ? 1 : n.value == 3 ? OBJ : LIST; met = k[0] == OBJ; break;
            case 5: kind = ruleKinds[n.value]; met = k[0] == OBJ; break;
            case 8: kind = k[1]; met = k[0] == 2 && k[1] == k[2]; break;
            case 10: case 11: kind = 2; met = k[0] == 2 && k[1] == 2; break;
            case 12: kind = 2; met = k[0] == 2; break;
            case 13: kind = 2; met = k[0] == k[1] && k[0] != LIST; break;
            case 14: kind = 2; met = k[0] == 1 && k[1] == 1; break;
            case 15: case 16: case 17: case 18: kind = 1; met = Arrays.stream(k).allMatch(one -> one == 1); break;
            case 20: case 21: kind = 2; met = k[0] == LIST && k[1] == 2; break;
            case 22: kind = 1; met = k[0] == LIST && k[1] == 1; break;
            default: throw new IllegalStateException("kind " + n.kind);
        }
        if (!met) {
            wrong.add(n.at);
        }
        return kind;
    }

    // ---- eval: a value is an Integer, a Boolean, a Thing, a List of Things, or null

    int eval(int r, int o) {
        if (r < 0 || r > 5 || rules[r] == null || !isThing(o)) {
            return 0;
        }
        used = 0;
        result = 0;
        errorAt = -1;
        try {
            Object v = value(rules[r], things.get(o), new Thing[3], 1);
            result = v instanceof Boolean ? ((Boolean) v ? 1 : 0) : (Integer) v;
            return 1;
        } catch (Failure f) {
            errorAt = f.at;
            return f.error;
        }
    }

    private void unit(int at) {
        if (used == 40) {
            throw new Failure(6, at);
        }
        used++;
    }

    private Object value(Node n, Thing it, Thing[] vars, int depth) {
        switch (n.kind) {
            case 0: return n.value;
            case 3: return it;
            case 4: return vars[n.value];
            case 19: return null;
            case 8: return value((Boolean) value(n.parts[0], it, vars, depth) ? n.parts[1] : n.parts[2], it, vars, depth);
            case 10: return (Boolean) value(n.parts[0], it, vars, depth) || (Boolean) value(n.parts[1], it, vars, depth);
            case 11: return (Boolean) value(n.parts[0], it, vars, depth) && (Boolean) value(n.parts[1], it, vars, depth);
            case 20: case 21: case 22: return loop(n, it, vars, depth);
            default: break;
        }
        Object a = value(n.parts[0], it, vars, depth);
        switch (n.kind) {
            case 1: case 2: return property(n, (Thing) a);
            case 5: return call(n, (Thing) a, depth);
            case 12: return !(Boolean) a;
            default: break;
        }
        if (n.prefix) {
            return -(Integer) a;
        }
        Object b = value(n.parts[1], it, vars, depth);
        if (n.kind == 13) {
            return a instanceof Thing || b instanceof Thing || a == null ? a == b : a.equals(b);
        }
        return numbers(n, (Integer) a, (Integer) b);
    }

    private static Object numbers(Node n, int a, int b) {
        switch (n.kind) {
            case 14: return a < b;
            case 15: return (int) ((long) a + b);
            case 16: return (int) ((long) a - b);
            case 17: return (int) ((long) a * b);
            default:
                if (b == 0) {
                    throw new Failure(4, n.at);
                }
                return (int) ((long) a / b);
        }
    }

    private Object property(Node n, Thing thing) {
        if (thing == null) {
            if (n.kind == 1) {
                throw new Failure(2, n.at);
            }
            return n.value < 3 ? (Object) 0 : n.value == 3 ? null : List.of();
        }
        if (forbidden.contains(thing.cls * 10 + n.value)) {
            throw new Failure(3, n.at);
        }
        return n.value < 3 ? (Object) thing.numbers[n.value] : n.value == 3 ? thing.link : thing.lists.get(n.value - 4);
    }

    private Object call(Node n, Thing thing, int depth) {
        if (thing == null) {
            throw new Failure(2, n.at);
        }
        if (depth == 5) {
            throw new Failure(5, n.at);
        }
        unit(n.at);
        try {
            return value(rules[n.value], thing, new Thing[3], depth + 1);
        } catch (Failure f) {
            throw new Failure(f.error, n.at);
        }
    }

    private Object loop(Node n, Thing it, Thing[] vars, int depth) {
        int sum = 0;
        for (Object each : (List<?>) value(n.parts[0], it, vars, depth)) {
            unit(n.at);
            Thing[] inner = vars.clone();
            inner[n.value] = (Thing) each;
            Object v = value(n.parts[1], it, inner, depth);
            if (n.kind == 22) {
                sum += (Integer) v;
            } else if ((Boolean) v == (n.kind == 20)) {
                return v;
            }
        }
        return n.kind == 22 ? (Object) sum : (Object) (n.kind == 21);
    }
}
