import java.math.BigInteger;
import java.util.ArrayList;
import java.util.List;
import java.util.function.IntBinaryOperator;
import java.util.function.ToIntFunction;

/**
 * A second reading of the document, written to be unlike the class: expressions are functions,
 * the program is a tree that is carried out by recursion, and runs are found by growing outcomes.
 */
final class Model {
    private static final class Statement {
        final int kind;
        final int a;
        int p;
        final ToIntFunction<int[]> x;

        Statement(int kind, int a, int p, ToIntFunction<int[]> x) {
            this.kind = kind;
            this.a = a;
            this.p = p;
            this.x = x;
        }
    }

    /** A statement with its number, and the lists of what stands in its block. */
    private static final class Node {
        final int number;
        final Statement statement;
        final List<Node> first = new ArrayList<>();
        final List<Node> second = new ArrayList<>();

        Node(int number, Statement statement) {
            this.number = number;
            this.statement = statement;
        }
    }

    private static final class Run {
        final List<Integer> outcomes = new ArrayList<>();
        BigInteger weight;
        int[] values;
        int[] visits;
    }

    /** Why a run does not go on to the end: one of the answers of follow, or a wish for more outcomes. */
    private static final class Stop extends Exception {
        private static final long serialVersionUID = 1L;
        final int why;

        Stop(int why) {
            super(null, null, false, false);
            this.why = why;
        }
    }

    private static final int WANTS_MORE = 1;

    private final List<ToIntFunction<int[]>> stack = new ArrayList<>();
    private final List<Statement> program = new ArrayList<>();

    // The run that is being carried out.
    private int[] given;
    private int used;
    private int[] values;
    private int[] visits;
    private BigInteger product;

    int push(int kind, int a) {
        if (kind < 0 || kind > 9 || kind == 0 && (a < 0 || a > 3) || kind == 1 && (a < 0 || a > 2)) {
            return -1;
        }
        int takes = kind < 2 ? 0 : kind == 7 ? 1 : 2;
        if (stack.size() < takes) {
            return -2;
        }
        if (takes == 0 && stack.size() == 6) {
            return -3;
        }
        ToIntFunction<int[]> y = takes == 2 ? stack.remove(stack.size() - 1) : v -> 0;
        ToIntFunction<int[]> x = takes > 0 ? stack.remove(stack.size() - 1) : v -> 0;
        if (kind == 0) {
            stack.add(v -> a);
        } else if (kind == 1) {
            stack.add(v -> v[a]);
        } else {
            IntBinaryOperator op = operator(kind);
            stack.add(v -> op.applyAsInt(x.applyAsInt(v), y.applyAsInt(v)));
        }
        return stack.size();
    }

    private static IntBinaryOperator operator(int kind) {
        return switch (kind) {
            case 2 -> (x, y) -> (x + y) % 4;
            case 3 -> (x, y) -> (x + 4 - y) % 4;
            case 4 -> (x, y) -> x * y % 4;
            case 5 -> (x, y) -> x == y ? 1 : 0;
            case 6 -> (x, y) -> x < y ? 1 : 0;
            case 7 -> (x, y) -> x == 0 ? 1 : 0;
            case 8 -> (x, y) -> x == 0 || y == 0 ? 0 : 1;
            default -> (x, y) -> x == 0 ? y : x;
        };
    }

    int pop() {
        if (stack.isEmpty()) {
            return -1;
        }
        stack.remove(stack.size() - 1);
        return stack.size();
    }

    int put(int kind, int a, int p) {
        if (kind < 0 || kind > 8 || kind <= 2 && (a < 0 || a > 2)
                || kind == 1 && (p < 0 || p > 16) || kind == 6 && (p < 1 || p > 3)) {
            return -1;
        }
        if (program.size() == 24) {
            return -2;
        }
        boolean takes = kind == 0 || kind == 3 || kind == 4;
        if (takes && stack.isEmpty()) {
            return -3;
        }
        // Open blocks as letters: L for a LOOP, I for an IF, E for an IF with ELSE.
        String open = openBlocks();
        boolean refused = switch (kind) {
            case 4, 6 -> open.length() == 3;
            case 5 -> !open.endsWith("I");
            case 7 -> !open.contains("L");
            case 8 -> open.isEmpty();
            default -> false;
        };
        if (refused) {
            return -4;
        }
        program.add(new Statement(kind, a, p, takes ? stack.remove(stack.size() - 1) : v -> 0));
        return program.size() - 1;
    }

    private String openBlocks() {
        String open = "";
        for (Statement s : program) {
            switch (s.kind) {
                case 4 -> open += "I";
                case 5 -> open = open.substring(0, open.length() - 1) + "E";
                case 6 -> open += "L";
                case 8 -> open = open.substring(0, open.length() - 1);
                default -> { }
            }
        }
        return open;
    }

    int drop() {
        if (program.isEmpty()) {
            return -1;
        }
        program.remove(program.size() - 1);
        return program.size();
    }

    void clear() {
        program.clear();
        stack.clear();
    }

    int tune(int i, int p) {
        if (i < 0 || i >= program.size() || program.get(i).kind != 1) {
            return -1;
        }
        if (p < 0 || p > 16) {
            return -2;
        }
        int before = program.get(i).p;
        program.get(i).p = p;
        return before;
    }

    int statements() {
        return program.size();
    }

    /** Reads the list from the place in the array on, up to the END or ELSE of its block. */
    private List<Node> read(int[] at) {
        List<Node> list = new ArrayList<>();
        while (at[0] < program.size()) {
            Statement s = program.get(at[0]);
            if (s.kind == 5 || s.kind == 8) {
                return list;
            }
            Node node = new Node(at[0], s);
            at[0]++;
            list.add(node);
            if (s.kind == 4 || s.kind == 6) {
                node.first.addAll(read(at));
                if (at[0] < program.size() && program.get(at[0]).kind == 5) {
                    at[0]++;
                    node.second.addAll(read(at));
                }
                at[0]++;
            }
        }
        return list;
    }

    /** Answers whether a BREAK is on its way out. */
    private boolean carryOut(List<Node> list) throws Stop {
        for (Node node : list) {
            visits[node.number]++;
            if (carryOut(node)) {
                return true;
            }
        }
        return false;
    }

    private boolean carryOut(Node node) throws Stop {
        Statement s = node.statement;
        int x = s.x.applyAsInt(values);
        switch (s.kind) {
            case 0 -> values[s.a] = x;
            case 1 -> values[s.a] = outcome(16 - s.p, s.p, 0, 0);
            case 2 -> values[s.a] = outcome(4, 4, 4, 4);
            case 3 -> {
                if (x == 0) {
                    throw new Stop(-2);
                }
            }
            case 4 -> {
                return carryOut(x != 0 ? node.first : node.second);
            }
            case 6 -> {
                for (int round = 0; round < s.p; round++) {
                    if (carryOut(node.first)) {
                        break;
                    }
                }
            }
            default -> {
                return true;
            }
        }
        return false;
    }

    private int outcome(int... weights) throws Stop {
        if (used == 6) {
            throw new Stop(-3);
        }
        if (used == given.length) {
            throw new Stop(WANTS_MORE);
        }
        int outcome = given[used];
        used++;
        if (weights[outcome] == 0) {
            throw new Stop(-4);
        }
        product = product.multiply(BigInteger.valueOf(weights[outcome]));
        return outcome;
    }

    /** Answers 0 if the run with these outcomes is kept. */
    private int tryOut(List<Node> tree, int[] outcomes) {
        given = outcomes;
        used = 0;
        values = new int[3];
        visits = new int[24];
        product = BigInteger.ONE;
        try {
            carryOut(tree);
            return 0;
        } catch (Stop stop) {
            return stop.why;
        }
    }

    private void grow(List<Node> tree, int[] outcomes, List<Run> kept) {
        int why = tryOut(tree, outcomes);
        if (why == 0) {
            Run run = new Run();
            for (int outcome : outcomes) {
                run.outcomes.add(outcome);
            }
            run.weight = product.multiply(BigInteger.valueOf(16).pow(6 - outcomes.length));
            run.values = values;
            run.visits = visits;
            kept.add(run);
        }
        if (why == WANTS_MORE) {
            for (int outcome = 0; outcome < 4; outcome++) {
                int[] longer = java.util.Arrays.copyOf(outcomes, outcomes.length + 1);
                longer[outcomes.length] = outcome;
                grow(tree, longer, kept);
            }
        }
    }

    private List<Run> kept() {
        List<Run> kept = new ArrayList<>();
        grow(read(new int[1]), new int[0], kept);
        return kept;
    }

    private static boolean wrongVariable(int v) {
        return v < 0 || v > 2;
    }

    private static boolean wrongValue(int k) {
        return k < 0 || k > 3;
    }

    private static BigInteger sum(List<Run> runs, int v, int k, int w, int l) {
        BigInteger sum = BigInteger.ZERO;
        for (Run run : runs) {
            if ((v < 0 || run.values[v] == k) && (w < 0 || run.values[w] == l)) {
                sum = sum.add(run.weight);
            }
        }
        return sum;
    }

    int weight() {
        return sum(kept(), -1, 0, -1, 0).intValueExact();
    }

    int weightOf(int v, int k) {
        if (wrongVariable(v) || wrongValue(k)) {
            return -1;
        }
        return sum(kept(), v, k, -1, 0).intValueExact();
    }

    int joint(int v, int k, int w, int l) {
        if (wrongVariable(v) || wrongValue(k) || wrongVariable(w) || wrongValue(l)) {
            return -1;
        }
        return sum(kept(), v, k, w, l).intValueExact();
    }

    int expected(int v) {
        if (wrongVariable(v)) {
            return -1;
        }
        BigInteger sum = BigInteger.ZERO;
        for (Run run : kept()) {
            sum = sum.add(run.weight.multiply(BigInteger.valueOf(run.values[v])));
        }
        return sum.intValueExact();
    }

    int top(int v, int k) {
        return fraction(v, k, true);
    }

    int bottom(int v, int k) {
        return fraction(v, k, false);
    }

    private int fraction(int v, int k, boolean top) {
        if (wrongVariable(v) || wrongValue(k)) {
            return -1;
        }
        List<Run> kept = kept();
        BigInteger whole = sum(kept, -1, 0, -1, 0);
        if (whole.signum() == 0) {
            return -2;
        }
        BigInteger part = sum(kept, v, k, -1, 0);
        return (top ? part : whole).divide(part.gcd(whole)).intValueExact();
    }

    int independent(int v, int w) {
        if (wrongVariable(v) || wrongVariable(w)) {
            return -1;
        }
        List<Run> kept = kept();
        BigInteger whole = sum(kept, -1, 0, -1, 0);
        boolean same = true;
        for (int k = 0; k < 4; k++) {
            for (int l = 0; l < 4; l++) {
                BigInteger one = whole.multiply(sum(kept, v, k, w, l));
                BigInteger other = sum(kept, v, k, -1, 0).multiply(sum(kept, w, l, -1, 0));
                same = same && one.equals(other);
            }
        }
        return same ? 1 : 0;
    }

    long visits(int i) {
        if (i < 0 || i >= program.size()) {
            return -1;
        }
        if (program.get(i).kind == 5 || program.get(i).kind == 8) {
            return -2;
        }
        BigInteger sum = BigInteger.ZERO;
        for (Run run : kept()) {
            sum = sum.add(run.weight.multiply(BigInteger.valueOf(run.visits[i])));
        }
        return sum.longValueExact();
    }

    int follow(int outcomes) {
        int[] all = new int[6];
        for (int j = 0; j < 6; j++) {
            all[j] = (outcomes >> 2 * j) & 3;
        }
        int why = tryOut(read(new int[1]), all);
        return why == 0 ? values[0] + 4 * values[1] + 16 * values[2] : why;
    }

    private Run best() {
        Run best = null;
        for (Run run : kept()) {
            if (best == null || run.weight.compareTo(best.weight) > 0) {
                best = run;
            }
        }
        return best;
    }

    int greatest() {
        Run best = best();
        return best == null ? 0 : best.weight.intValueExact();
    }

    int likely(int j) {
        Run best = best();
        return best == null || j < 0 || j >= best.outcomes.size() ? -2 : best.outcomes.get(j);
    }
}
