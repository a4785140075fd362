/** Long series of calls, the same ones every time, each on the class and on the model. */
public final class ModelTest extends Checks {
    private static final int SERIES = 200;
    private static final int CALLS = 512;

    private final ChancePrograms x = new ChancePrograms();
    private final Model model = new Model();
    private final int series;
    private long seed;
    private int calls;

    private ModelTest(int series) {
        this.series = series;
        this.seed = 1000003L * series + 17;
    }

    public static void main(String[] args) {
        int series = args.length > 1 ? Integer.parseInt(args[1]) : SERIES;
        for (int n = 0; n < series; n++) {
            new ModelTest(n).runSeries();
        }
        finish();
    }

    /** A number from 0 to below the bound, by a fixed rule. */
    private int next(int bound) {
        seed = seed * 6364136223846793005L + 1442695040888963407L;
        return (int) ((seed >>> 33) % bound);
    }

    /** A number from 0 to below the bound, and now and then one that is out of it. */
    private int loose(int bound) {
        int[] strange = {-1, bound, bound + 1, -bound, Integer.MIN_VALUE, Integer.MAX_VALUE};
        return next(25) == 0 ? strange[next(strange.length)] : next(bound);
    }

    private void same(String call, long got, long want) {
        calls++;
        // What is built at the end of a series may go on for some calls more, and those are free.
        if (calls <= CALLS) {
            due("series " + series + ", call " + calls + ": " + call, got, want);
        }
    }

    /** One series in three ends its questions early, so that the programs grow long. */
    private void runSeries() {
        int questions = series % 3 == 0 ? 1 : 4;
        while (calls < CALLS) {
            int choice = next(30);
            if (choice < 17) {
                change();
            } else if (choice < 18) {
                pull();
            } else if (choice < 18 + questions) {
                ask(next(12));
            } else if (choice < 29) {
                build();
            } else if (next(12) == 0) {
                x.clear();
                model.clear();
                calls++;
            }
        }
    }

    private void change() {
        if (next(5) < 3) {
            push(loose(10), loose(next(4) == 0 ? 4 : 3));
        } else {
            put(loose(9), loose(3), next(3) == 0 ? loose(17) : next(4));
        }
        if (next(9) == 0) {
            int i = loose(model.statements() + 1);
            int p = loose(17);
            same("tune(" + i + ", " + p + ")", x.tune(i, p), model.tune(i, p));
        }
    }

    private void push(int kind, int a) {
        same("push(" + kind + ", " + a + ")", x.push(kind, a), model.push(kind, a));
    }

    private void put(int kind, int a, int p) {
        same("put(" + kind + ", " + a + ", " + p + ")", x.put(kind, a, p), model.put(kind, a, p));
    }

    private void pull() {
        if (next(2) == 0) {
            same("pop()", x.pop(), model.pop());
        } else {
            same("drop()", x.drop(), model.drop());
        }
    }

    /**
     * Statements as a program has them, for what is chosen freely is mostly refused. One after
     * which no run is kept is mostly dropped again, for then there is little left to ask about.
     */
    private void build() {
        int kind = next(9);
        if (kind == SET || kind == KEEP || kind == IF) {
            push(VAR, next(3));
            if (kind == KEEP || next(2) == 0) {
                push(next(2) == 0 ? VAR : CONST, next(3));
                push(next(3) == 0 ? CHOICE : 2 + next(8), 0);
            }
        }
        put(kind, next(3), kind == LOOP ? 1 + next(3) : next(17));
        if (model.weight() == 0 && next(8) != 0) {
            same("drop()", x.drop(), model.drop());
        }
        if (model.statements() == 24 && next(3) == 0) {
            takeManyAway();
        }
    }

    /** A full program refuses all that is put, so it doesn't stay full for long. */
    private void takeManyAway() {
        for (int n = next(24); n >= 0; n--) {
            same("drop()", x.drop(), model.drop());
        }
    }

    private void ask(int which) {
        int v = loose(3);
        int w = loose(3);
        int k = loose(4);
        int l = loose(4);
        int i = loose(model.statements() + 1);
        switch (which) {
            case 0 -> same("statements()", x.statements(), model.statements());
            case 1 -> same("weight()", x.weight(), model.weight());
            case 2 -> same("weightOf(" + v + ", " + k + ")", x.weightOf(v, k), model.weightOf(v, k));
            case 3 -> same("joint(" + v + ", " + k + ", " + w + ", " + l + ")",
                    x.joint(v, k, w, l), model.joint(v, k, w, l));
            case 4 -> same("expected(" + v + ")", x.expected(v), model.expected(v));
            case 5 -> same("top(" + v + ", " + k + ")", x.top(v, k), model.top(v, k));
            case 6 -> same("bottom(" + v + ", " + k + ")", x.bottom(v, k), model.bottom(v, k));
            case 7 -> same("independent(" + v + ", " + w + ")", x.independent(v, w), model.independent(v, w));
            case 8 -> same("visits(" + i + ")", x.visits(i), model.visits(i));
            case 9 -> {
                int outcomes = next(3) == 0 ? next(4096) : next(4096) & 1365;
                same("follow(" + outcomes + ")", x.follow(outcomes), model.follow(outcomes));
            }
            case 10 -> same("greatest()", x.greatest(), model.greatest());
            default -> {
                int j = loose(7);
                same("likely(" + j + ")", x.likely(j), model.likely(j));
            }
        }
    }
}
