/** Small programs with random steps, and the exact weights of all their runs. */
public final class ChancePrograms {
    private static final int VARIABLES = 3;
    private static final int VALUES = 4;
    private static final int STATES = 64;

    private static final int MOST_EXPRESSIONS = 6;
    private static final int MOST_STATEMENTS = 24;
    private static final int MOST_OPEN = 3;
    private static final int MOST_ROUNDS = 3;
    private static final int MOST_RANDOM_STEPS = 6;
    private static final int WHOLE = 16;
    private static final int DRAW_WEIGHT = 4;

    /** The statements, and the ENDs that the program may lack. */
    private static final int PLACES = MOST_STATEMENTS + MOST_OPEN;
    private static final int STACK_CELLS = MOST_EXPRESSIONS * STATES;
    private static final int PROGRAM_CELLS = MOST_STATEMENTS * STATES;

    /** 4 outcomes at each of six random steps. */
    private static final int CODES = 4096;
    /** 16 for each of six random steps. */
    private static final int WEIGHT_OF_ALL = 16777216;
    /** Far above need: there are 27 places, and a run comes to none of them more than 27 times. */
    private static final int STEP_BOUND = 100000;
    /** Far above need: Euclid's rounds on two ints are fewer than fifty. */
    private static final int DIVISOR_BOUND = 1000;

    private static final int CONST = 0;
    private static final int VAR = 1;
    private static final int PLUS = 2;
    private static final int MINUS = 3;
    private static final int TIMES = 4;
    private static final int EQUAL = 5;
    private static final int LESS = 6;
    private static final int NOT = 7;
    private static final int BOTH = 8;
    private static final int CHOICE = 9;

    private static final int SET = 0;
    private static final int FLIP = 1;
    private static final int DRAW = 2;
    private static final int KEEP = 3;
    private static final int IF = 4;
    private static final int ELSE = 5;
    private static final int LOOP = 6;
    private static final int BREAK = 7;
    private static final int END = 8;

    private static final int NONE = -1;

    /** How a run stands; the last three are what follow answers. */
    private static final int UNDER_WAY = 1;
    private static final int KEPT = 0;
    private static final int DROPPED_BY_KEEP = -2;
    private static final int DROPPED_AT_SEVENTH = -3;
    private static final int NO_SUCH_OUTCOME = -4;

    // A state is the values of all variables as v0 + 4 * v1 + 16 * v2. An expression is held as
    // its value in every state, so that it takes the same room however large it was built.
    private final int[] stackValues = new int[STACK_CELLS];
    private int expressionCount;

    private final int[] kinds = new int[PLACES];
    private final int[] variables = new int[PLACES];
    private final int[] numbers = new int[PLACES];
    private final int[] programValues = new int[PROGRAM_CELLS];
    private int statementCount;

    // Where blocks begin and end. A block is named by the place of its IF or LOOP.
    private final int[] open = new int[MOST_OPEN];
    private int openCount;
    private final int[] blockOf = new int[PLACES];
    private final int[] elseOf = new int[PLACES];
    private final int[] endOf = new int[PLACES];
    private int closedLength;

    // The run that is being carried out.
    private final int[] roundsLeft = new int[PLACES];
    private final int[] runVisits = new int[PLACES];
    private int place;
    private int state;
    private int randomSteps;
    private int runWeight;
    private int ending;

    // What the kept runs came to, as of the last tally.
    private final int[] stateWeights = new int[STATES];
    private final long[] visitSums = new long[PLACES];
    private int bestWeight;
    private int bestCode;
    private int bestSteps;

    public ChancePrograms() {
        expressionCount = 0;
        statementCount = 0;
        linkBlocks();
    }

    public int push(int kind, int a) {
        if (!isExpression(kind, a)) {
            return -1;
        }
        int taken = takenBy(kind);
        if (expressionCount < taken) {
            return -2;
        }
        if (taken == 0 && expressionCount >= MOST_EXPRESSIONS) {
            return -3;
        }
        int slot = expressionCount - taken;
        fillSlot(slot, kind, a);
        expressionCount = slot + 1;
        return expressionCount;
    }

    public int pop() {
        if (expressionCount == 0) {
            return -1;
        }
        expressionCount--;
        return expressionCount;
    }

    public int put(int kind, int a, int p) {
        if (!isStatement(kind, a, p)) {
            return -1;
        }
        if (statementCount >= MOST_STATEMENTS) {
            return -2;
        }
        boolean takes = kind == SET || kind == KEEP || kind == IF;
        if (takes && expressionCount == 0) {
            return -3;
        }
        if (!blocksAllow(kind)) {
            return -4;
        }
        int number = statementCount;
        kinds[number] = kind;
        variables[number] = a;
        numbers[number] = p;
        if (takes) {
            moveTopTo(number);
        }
        statementCount = number + 1;
        linkBlocks();
        return number;
    }

    public int drop() {
        if (statementCount == 0) {
            return -1;
        }
        statementCount--;
        linkBlocks();
        return statementCount;
    }

    public void clear() {
        expressionCount = 0;
        statementCount = 0;
        linkBlocks();
    }

    public int tune(int i, int p) {
        if (!isNumber(i) || kinds[i] != FLIP) {
            return -1;
        }
        if (p < 0 || p > WHOLE) {
            return -2;
        }
        int before = numbers[i];
        numbers[i] = p;
        return before;
    }

    public int statements() {
        return statementCount;
    }

    public int weight() {
        tallyRuns();
        return keptWeight();
    }

    public int weightOf(int v, int k) {
        if (!isVariable(v) || !isValue(k)) {
            return -1;
        }
        tallyRuns();
        return keptWeightWith(v, k, v, k);
    }

    public int joint(int v, int k, int w, int l) {
        if (!isVariable(v) || !isValue(k) || !isVariable(w) || !isValue(l)) {
            return -1;
        }
        tallyRuns();
        return keptWeightWith(v, k, w, l);
    }

    public int expected(int v) {
        if (!isVariable(v)) {
            return -1;
        }
        tallyRuns();
        int sum = 0;
        for (int k = 0; k < VALUES; k++) {
            sum += k * keptWeightWith(v, k, v, k);
        }
        return sum;
    }

    public int top(int v, int k) {
        if (!isVariable(v) || !isValue(k)) {
            return -1;
        }
        tallyRuns();
        int part = keptWeightWith(v, k, v, k);
        int whole = keptWeight();
        int divisor = commonDivisor(part, whole);
        // The part is no more than the whole, so the divisor is 0 just when the whole is.
        return divisor == 0 ? -2 : part / divisor;
    }

    public int bottom(int v, int k) {
        if (!isVariable(v) || !isValue(k)) {
            return -1;
        }
        tallyRuns();
        int part = keptWeightWith(v, k, v, k);
        int whole = keptWeight();
        int divisor = commonDivisor(part, whole);
        // The part is no more than the whole, so the divisor is 0 just when the whole is.
        return divisor == 0 ? -2 : whole / divisor;
    }

    public int independent(int v, int w) {
        if (!isVariable(v) || !isVariable(w)) {
            return -1;
        }
        tallyRuns();
        // The products come near to 2 to the 48th, so they are taken as longs.
        long whole = keptWeight();
        for (int k = 0; k < VALUES; k++) {
            long first = keptWeightWith(v, k, v, k);
            for (int l = 0; l < VALUES; l++) {
                long second = keptWeightWith(w, l, w, l);
                long both = keptWeightWith(v, k, w, l);
                if (whole * both != first * second) {
                    return 0;
                }
            }
        }
        return 1;
    }

    public long visits(int i) {
        if (!isNumber(i)) {
            return -1;
        }
        if (kinds[i] == ELSE || kinds[i] == END) {
            return -2;
        }
        tallyRuns();
        return visitSums[i];
    }

    public int follow(int outcomes) {
        // A code has the first outcome highest, so that codes are ordered as runs are.
        int code = 0;
        for (int j = 0; j < MOST_RANDOM_STEPS; j++) {
            code = (code << 2) | ((outcomes >> (2 * j)) & 3);
        }
        carryOut(code);
        return ending == KEPT ? state : ending;
    }

    public int greatest() {
        tallyRuns();
        return bestWeight;
    }

    public int likely(int j) {
        tallyRuns();
        if (j < 0 || j >= bestSteps) {
            return -2;
        }
        return outcomeIn(bestCode, j);
    }

    private static boolean isVariable(int v) {
        return v >= 0 && v < VARIABLES;
    }

    private static boolean isValue(int k) {
        return k >= 0 && k < VALUES;
    }

    private boolean isNumber(int i) {
        return i >= 0 && i < statementCount;
    }

    private static boolean isExpression(int kind, int a) {
        if (kind == CONST) {
            return isValue(a);
        }
        if (kind == VAR) {
            return isVariable(a);
        }
        return kind >= PLUS && kind <= CHOICE;
    }

    private static int takenBy(int kind) {
        if (kind == CONST || kind == VAR) {
            return 0;
        }
        return kind == NOT ? 1 : 2;
    }

    /** What the expression takes off stands in this slot and the next one. */
    private void fillSlot(int slot, int kind, int a) {
        int taken = takenBy(kind);
        int cell = slot * STATES;
        for (int s = 0; s < STATES; s++) {
            int value = a;
            if (kind == VAR) {
                value = valueIn(s, a);
            }
            if (taken > 0) {
                int x = stackValues[cell + s];
                int y = taken == 2 ? stackValues[cell + STATES + s] : 0;
                value = combined(kind, x, y);
            }
            stackValues[cell + s] = value;
        }
    }

    private static int combined(int kind, int x, int y) {
        switch (kind) {
            case PLUS:
                return (x + y) & 3;
            case MINUS:
                return (x - y) & 3;
            case TIMES:
                return (x * y) & 3;
            case EQUAL:
                return x == y ? 1 : 0;
            case LESS:
                return x < y ? 1 : 0;
            case NOT:
                return x == 0 ? 1 : 0;
            case BOTH:
                return x != 0 && y != 0 ? 1 : 0;
            default:
                return x != 0 ? x : y;
        }
    }

    private static boolean isStatement(int kind, int a, int p) {
        if (kind == SET || kind == DRAW) {
            return isVariable(a);
        }
        if (kind == FLIP) {
            return isVariable(a) && p >= 0 && p <= WHOLE;
        }
        if (kind == LOOP) {
            return p >= 1 && p <= MOST_ROUNDS;
        }
        return kind >= KEEP && kind <= END;
    }

    private boolean blocksAllow(int kind) {
        switch (kind) {
            case IF:
            case LOOP:
                return openCount < MOST_OPEN;
            case ELSE:
                return openCount > 0 && awaitsElse(open[openCount - 1]);
            case BREAK:
                return innermostLoop() != NONE;
            case END:
                return openCount > 0;
            default:
                return true;
        }
    }

    private boolean awaitsElse(int block) {
        return kinds[block] == IF && elseOf[block] == NONE;
    }

    private int innermostLoop() {
        for (int depth = openCount - 1; depth >= 0; depth--) {
            if (kinds[open[depth]] == LOOP) {
                return open[depth];
            }
        }
        return NONE;
    }

    private void moveTopTo(int number) {
        expressionCount--;
        int from = expressionCount * STATES;
        int to = number * STATES;
        for (int s = 0; s < STATES; s++) {
            programValues[to + s] = stackValues[from + s];
        }
    }

    /**
     * Reads the blocks from the statements anew, so that a drop needs no memory of what was open.
     * Blocks that lack an END get one behind the program, and runs need no other rule for them.
     */
    private void linkBlocks() {
        openCount = 0;
        for (int at = 0; at < statementCount; at++) {
            linkStatement(at);
        }
        closedLength = statementCount;
        for (int depth = openCount - 1; depth >= 0; depth--) {
            kinds[closedLength] = END;
            linkEnd(closedLength, open[depth]);
            closedLength++;
        }
    }

    private void linkStatement(int at) {
        switch (kinds[at]) {
            case IF:
            case LOOP:
                elseOf[at] = NONE;
                open[openCount] = at;
                openCount++;
                break;
            case ELSE:
                blockOf[at] = open[openCount - 1];
                elseOf[blockOf[at]] = at;
                break;
            case BREAK:
                blockOf[at] = innermostLoop();
                break;
            case END:
                openCount--;
                linkEnd(at, open[openCount]);
                break;
            default:
                break;
        }
    }

    private void linkEnd(int at, int block) {
        blockOf[at] = block;
        endOf[block] = at;
    }

    private static int valueIn(int values, int v) {
        return (values >> (2 * v)) & 3;
    }

    private static int outcomeIn(int code, int j) {
        return (code >> (2 * (MOST_RANDOM_STEPS - 1 - j))) & 3;
    }

    private void tallyRuns() {
        startTally();
        int code = 0;
        for (int run = 0; run < CODES && code < CODES; run++) {
            carryOut(code);
            if (ending == KEPT) {
                tallyKeptRun(code);
            }
            // Codes that differ only in outcomes that the run did not come to are the same run.
            code += 1 << (2 * (MOST_RANDOM_STEPS - randomSteps));
        }
    }

    private void startTally() {
        for (int s = 0; s < STATES; s++) {
            stateWeights[s] = 0;
        }
        for (int at = 0; at < PLACES; at++) {
            visitSums[at] = 0;
        }
        bestWeight = 0;
        bestCode = 0;
        bestSteps = 0;
    }

    private void tallyKeptRun(int code) {
        stateWeights[state] += runWeight;
        for (int at = 0; at < statementCount; at++) {
            visitSums[at] += (long) runWeight * runVisits[at];
        }
        // Runs come in their order, so only a greater weight may take the place of the first.
        if (runWeight > bestWeight) {
            bestWeight = runWeight;
            bestCode = code;
            bestSteps = randomSteps;
        }
    }

    private void startRun() {
        for (int at = 0; at < PLACES; at++) {
            runVisits[at] = 0;
        }
        place = 0;
        state = 0;
        randomSteps = 0;
        runWeight = WEIGHT_OF_ALL;
        ending = UNDER_WAY;
    }

    private void carryOut(int code) {
        startRun();
        for (int step = 0; step < STEP_BOUND && place < closedLength && ending == UNDER_WAY; step++) {
            int at = place;
            place = at + 1;
            runVisits[at]++;
            switch (kinds[at]) {
                case SET:
                    assign(variables[at], programValues[at * STATES + state]);
                    break;
                case FLIP:
                case DRAW:
                    takeRandomStep(at, code);
                    break;
                case KEEP:
                    if (programValues[at * STATES + state] == 0) {
                        ending = DROPPED_BY_KEEP;
                    }
                    break;
                case IF:
                    if (programValues[at * STATES + state] == 0) {
                        place = (elseOf[at] == NONE ? endOf[at] : elseOf[at]) + 1;
                    }
                    break;
                case LOOP:
                    roundsLeft[at] = numbers[at];
                    break;
                case ELSE:
                case BREAK:
                    place = endOf[blockOf[at]] + 1;
                    break;
                default:
                    endBlock(blockOf[at]);
                    break;
            }
        }
        if (ending == UNDER_WAY) {
            ending = KEPT;
        }
    }

    private void assign(int v, int value) {
        state = (state & ~(3 << (2 * v))) | (value << (2 * v));
    }

    private void takeRandomStep(int at, int code) {
        if (randomSteps >= MOST_RANDOM_STEPS) {
            ending = DROPPED_AT_SEVENTH;
            return;
        }
        int outcome = outcomeIn(code, randomSteps);
        int outcomeWeight = outcomeWeightAt(at, outcome);
        randomSteps++;
        if (outcomeWeight == 0) {
            ending = NO_SUCH_OUTCOME;
            return;
        }
        // The weight has a 16 for each random step not yet come to; one of them gives way here.
        runWeight = runWeight / WHOLE * outcomeWeight;
        assign(variables[at], outcome);
    }

    private int outcomeWeightAt(int at, int outcome) {
        if (kinds[at] == DRAW) {
            return DRAW_WEIGHT;
        }
        if (outcome > 1) {
            return 0;
        }
        return outcome == 1 ? numbers[at] : WHOLE - numbers[at];
    }

    private void endBlock(int block) {
        if (kinds[block] != LOOP) {
            return;
        }
        roundsLeft[block]--;
        if (roundsLeft[block] > 0) {
            place = block + 1;
        }
    }

    private int keptWeight() {
        int sum = 0;
        for (int s = 0; s < STATES; s++) {
            sum += stateWeights[s];
        }
        return sum;
    }

    private int keptWeightWith(int v, int k, int w, int l) {
        int sum = 0;
        for (int s = 0; s < STATES; s++) {
            int first = valueIn(s, v);
            int second = valueIn(s, w);
            if (first == k && second == l) {
                sum += stateWeights[s];
            }
        }
        return sum;
    }

    private static int commonDivisor(int one, int other) {
        int greater = one;
        int lesser = other;
        for (int round = 0; round < DIVISOR_BOUND && lesser != 0; round++) {
            int rest = greater % lesser;
            greater = lesser;
            lesser = rest;
        }
        return greater;
    }
}
