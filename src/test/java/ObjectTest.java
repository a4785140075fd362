/** "What it is": an object over its 512 calls, and beside other objects. */
public final class ObjectTest extends Edges {
    private static final int CALLS = 512;
    /** How many calls rich makes. */
    private static final int RICH_CALLS = 19;

    private static final Call[] QUESTIONS = {
        x -> x.statements(), x -> x.weight(), x -> x.weightOf(2, 1), x -> x.joint(0, 1, 2, 0),
        x -> x.expected(0), x -> x.top(1, 1), x -> x.bottom(1, 1), x -> x.independent(1, 2),
        x -> x.visits(4), x -> x.follow(5), x -> x.greatest(), x -> x.likely(2)};

    /** What each of them answers on the rich program, worked out by the model. */
    private static final long[] ON_RICH = answersOfModel();

    public static void main(String[] args) {
        lastCallIsAQuestion();
        lastCallIsAChange();
        changesUpToTheLastCall();
        objectsBesideEachOther();
        finish();
    }

    private static long[] answersOfModel() {
        Model m = new Model();
        m.put(DRAW, 0, 0);
        m.put(FLIP, 1, 5);
        m.push(VAR, 0);
        m.push(VAR, 1);
        m.push(PLUS, 0);
        m.put(KEEP, 0, 0);
        m.put(LOOP, 0, 2);
        m.put(FLIP, 2, 9);
        m.push(VAR, 2);
        m.put(IF, 0, 0);
        m.put(BREAK, 0, 0);
        m.put(ELSE, 0, 0);
        m.push(VAR, 0);
        m.push(CONST, 1);
        m.push(PLUS, 0);
        m.put(SET, 0, 0);
        m.put(END, 0, 0);
        return new long[] {
            m.statements(), m.weight(), m.weightOf(2, 1), m.joint(0, 1, 2, 0), m.expected(0), m.top(1, 1),
            m.bottom(1, 1), m.independent(1, 2), m.visits(4), m.follow(5), m.greatest(), m.likely(2)};
    }

    /** "An object is used for at most 512 calls after it has been made": the last may be any question. */
    private static void lastCallIsAQuestion() {
        for (int q = 0; q < QUESTIONS.length; q++) {
            ChancePrograms x = new ChancePrograms();
            rich(x);
            for (int calls = RICH_CALLS + 1; calls < CALLS; calls++) {
                int other = calls % QUESTIONS.length;
                due("call " + calls + ", question " + other, QUESTIONS[other].on(x), ON_RICH[other]);
            }
            due("the last call, question " + q, QUESTIONS[q].on(x), ON_RICH[q]);
        }
    }

    private static void dueLast(String what, Build build, int buildCalls, Call last, long want) {
        ChancePrograms x = new ChancePrograms();
        build.on(x);
        for (int calls = buildCalls + 1; calls < CALLS; calls++) {
            due(what + ": refused", x.put(9, 0, 0), -1);
        }
        due(what + " as the last call", last.on(x), want);
    }

    /** The same of the calls that change something. */
    private static void lastCallIsAChange() {
        dueLast("2: push", Edges::rich, RICH_CALLS, x -> x.push(TIMES, 0), 1);
        dueLast("3: pop", Edges::rich, RICH_CALLS, x -> x.pop(), 1);
        dueLast("4: put", Edges::rich, RICH_CALLS, x -> x.put(SET, 0, 0), 10);
        dueLast("4: put, refused", Edges::rich, RICH_CALLS, x -> x.put(ELSE, 0, 0), -4);
        dueLast("5: drop", Edges::rich, RICH_CALLS, x -> x.drop(), 9);
        dueLast("7: tune", Edges::rich, RICH_CALLS, x -> x.tune(4, 0), 9);
        dueLast("7: tune, refused", Edges::rich, RICH_CALLS, x -> x.tune(4, 17), -2);
    }

    /** Many statements come and go, and the last calls are as those of a new object. */
    private static void changesUpToTheLastCall() {
        ChancePrograms x = new ChancePrograms();
        int calls = 0;
        while (calls + RICH_CALLS + 1 + RICH_CALLS + QUESTIONS.length <= CALLS) {
            rich(x);
            x.clear();
            calls += RICH_CALLS + 1;
        }
        rich(x);
        for (int q = 0; q < QUESTIONS.length; q++) {
            due("after many programs, question " + q, QUESTIONS[q].on(x), ON_RICH[q]);
        }
    }

    /** What is done to one object is not seen by another, also while both are in use. */
    private static void objectsBesideEachOther() {
        ChancePrograms x = new ChancePrograms();
        ChancePrograms other = new ChancePrograms();
        rich(x);
        due("statements of the other", other.statements(), 0);
        due("expressions of the other", other.pop(), -1);
        due("blocks of the other", other.put(END, 0, 0), -4);
        noneKept(other);
        for (int q = 0; q < QUESTIONS.length; q++) {
            due("weight of the other", other.weight(), 0);
            due("beside the other, question " + q, QUESTIONS[q].on(x), ON_RICH[q]);
            due("greatest of the other", other.greatest(), 0);
            due("likely of the other", other.likely(0), -2);
        }
        other.tune(1, 16);
        due("p of the one", x.tune(1, 5), 5);
        other.clear();
        ChancePrograms third = new ChancePrograms();
        due("weight of the third", third.weight(), ALL);
        due("weight of the one", x.weight(), ON_RICH[1]);
        due("expressions of the one", x.pop(), 1);
    }
}
