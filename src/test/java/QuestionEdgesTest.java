/** The boundary cases of promises 8 to 19, a method for each sentence that names one; it is quoted above. */
public final class QuestionEdgesTest extends Edges {
    /** Programs on which a wrong argument is -1 all the same. */
    private static final Build[] BUILDS = {NOTHING, Edges::rich, Edges::noneKept};

    public static void main(String[] args) {
        noStatement();
        noRunKept();
        wrongVariable();
        wrongValue();
        wrongBoth();
        lastVariablesAndValues();
        weightEdges();
        jointOfOneVariable();
        expectedEdges();
        topAndBottomOfNoRun();
        topAndBottomEdges();
        topAndBottomOfLargeNumbers();
        independentAsWholeNumbers();
        independentOfEachPair();
        independentOfItself();
        independentOfNoRun();
        visitsOfNoStatement();
        visitsOfElseAndEnd();
        visitsOfLoop();
        visitsOfRunsThatAreNotKept();
        followKept();
        followBelowZero();
        followDroppedByKeep();
        followSeventhStep();
        followSeventhStepWhateverTheOutcomes();
        followWrongOutcome();
        followFirst();
        greatestOfNone();
        greatestEdges();
        likelyOfNoStep();
        likelyTakesTheFirst();
        likelyTakesTheGreatest();
        finish();
    }

    /** Promises 8 to 19 with no statement at all. */
    private static void noStatement() {
        ChancePrograms x = new ChancePrograms();
        due("8: statements()", x.statements(), 0);
        due("9: weight()", x.weight(), ALL);
        for (int v = 0; v < 3; v++) {
            due("12: expected(" + v + ")", x.expected(v), 0);
            for (int k = 0; k < 4; k++) {
                int is = k == 0 ? 1 : 0;
                due("10: weightOf(" + v + ", " + k + ")", x.weightOf(v, k), is * ALL);
                due("13: top(" + v + ", " + k + ")", x.top(v, k), is);
                due("14: bottom(" + v + ", " + k + ")", x.bottom(v, k), 1);
                for (int w = 0; w < 3; w++) {
                    due("11: joint(" + v + ", " + k + ", " + w + ", 0)", x.joint(v, k, w, 0), is * ALL);
                    due("11: joint(" + w + ", 0, " + v + ", " + k + ")", x.joint(w, 0, v, k), is * ALL);
                }
            }
            for (int w = 0; w < 3; w++) {
                due("15: independent(" + v + ", " + w + ")", x.independent(v, w), 1);
            }
        }
        due("16: visits(0)", x.visits(0), -1);
        due("17: follow(0)", x.follow(0), 0);
        due("17: follow(-1)", x.follow(-1), 0);
        due("18: greatest()", x.greatest(), ALL);
        due("19: likely(0)", x.likely(0), -2);
        due("19: likely(-1)", x.likely(-1), -2);
    }

    private static Build[] programsOfNoKeptRun() {
        return new Build[] {
            Edges::noneKept,
            x -> putOnVariable(x, KEEP, 0, 2),
            x -> {
                for (int n = 0; n < 7; n++) {
                    x.put(FLIP, n % 3, 16);
                }
            },
            x -> {
                x.put(FLIP, 0, 0);
                putOnVariable(x, KEEP, 0, 0);
            }};
    }

    /** Promises 9 to 19 where no run is kept: by KEEP, by a seventh step, and for want of an outcome. */
    private static void noRunKept() {
        for (Build build : programsOfNoKeptRun()) {
            ChancePrograms x = new ChancePrograms();
            build.on(x);
            due("9: weight() of none", x.weight(), 0);
            for (int v = 0; v < 3; v++) {
                due("12: expected(" + v + ") of none", x.expected(v), 0);
                for (int k = 0; k < 4; k++) {
                    due("10: weightOf(" + v + ", " + k + ") of none", x.weightOf(v, k), 0);
                    due("11: joint(" + v + ", " + k + ", 0, 0) of none", x.joint(v, k, 0, 0), 0);
                    due("13: top(" + v + ", " + k + ") of none", x.top(v, k), -2);
                    due("14: bottom(" + v + ", " + k + ") of none", x.bottom(v, k), -2);
                }
                due("15: independent(" + v + ", 0) of none", x.independent(v, 0), 1);
            }
            due("16: visits(0) of none", x.visits(0), 0);
            due("18: greatest() of none", x.greatest(), 0);
            for (int j = -1; j <= 6; j++) {
                due("19: likely(" + j + ") of none", x.likely(j), -2);
            }
        }
    }

    private static void refusedEverywhere(String what, Call call) {
        for (Build build : BUILDS) {
            refused(what, build, call, -1);
        }
    }

    private static void wrongVariable(int v) {
        refusedEverywhere("10: weightOf, v " + v, x -> x.weightOf(v, 0));
        refusedEverywhere("11: joint, v " + v, x -> x.joint(v, 0, 0, 0));
        refusedEverywhere("11: joint, w " + v, x -> x.joint(0, 0, v, 0));
        refusedEverywhere("12: expected, v " + v, x -> x.expected(v));
        refusedEverywhere("13: top, v " + v, x -> x.top(v, 0));
        refusedEverywhere("14: bottom, v " + v, x -> x.bottom(v, 0));
        refusedEverywhere("15: independent, v " + v, x -> x.independent(v, 0));
        refusedEverywhere("15: independent, w " + v, x -> x.independent(0, v));
    }

    /** "a variable that is not 0 to 2 ...: -1" */
    private static void wrongVariable() {
        wrongVariable(-1);
        wrongVariable(3);
        for (int v : FAR_OUT) {
            wrongVariable(v);
        }
    }

    private static void wrongValue(int k) {
        refusedEverywhere("10: weightOf, k " + k, x -> x.weightOf(0, k));
        refusedEverywhere("11: joint, k " + k, x -> x.joint(0, k, 0, 0));
        refusedEverywhere("11: joint, l " + k, x -> x.joint(0, 0, 0, k));
        refusedEverywhere("13: top, k " + k, x -> x.top(0, k));
        refusedEverywhere("14: bottom, k " + k, x -> x.bottom(0, k));
    }

    /** "or a value that is not 0 to 3: -1" */
    private static void wrongValue() {
        wrongValue(-1);
        wrongValue(4);
        for (int k : FAR_OUT) {
            wrongValue(k);
        }
    }

    /** More than one argument that is wrong. */
    private static void wrongBoth() {
        refusedEverywhere("10: weightOf(3, 4)", x -> x.weightOf(3, 4));
        refusedEverywhere("11: joint(3, 4, -1, -1)", x -> x.joint(3, 4, -1, -1));
        refusedEverywhere("11: joint(-1, 0, -1, 0)", x -> x.joint(-1, 0, -1, 0));
        refusedEverywhere("11: joint(0, 4, 0, 4)", x -> x.joint(0, 4, 0, 4));
        refusedEverywhere("13: top(-1, -1)", x -> x.top(-1, -1));
        refusedEverywhere("14: bottom(-1, -1)", x -> x.bottom(-1, -1));
        refusedEverywhere("15: independent(3, 3)", x -> x.independent(3, 3));
        refusedEverywhere("15: independent(-1, -1)", x -> x.independent(-1, -1));
    }

    /** The first and the last variable and value that are taken, in every place of the arguments. */
    private static void lastVariablesAndValues() {
        for (int v = 0; v < 3; v++) {
            for (int k = 0; k < 4; k++) {
                ChancePrograms x = new ChancePrograms();
                putOnValue(x, SET, v, k);
                int other = (v + 1) % 3;
                String at = " of " + v + " and " + k;
                due("10: weightOf" + at, x.weightOf(v, k), ALL);
                due("11: joint first" + at, x.joint(v, k, other, 0), ALL);
                due("11: joint second" + at, x.joint(other, 0, v, k), ALL);
                due("12: expected" + at, x.expected(v), k * ALL);
                due("13: top" + at, x.top(v, k), 1);
                due("13: top of another value" + at, x.top(v, (k + 1) % 4), 0);
                due("14: bottom" + at, x.bottom(v, k), 1);
                due("15: independent first" + at, x.independent(v, other), 1);
                due("15: independent second" + at, x.independent(other, v), 1);
            }
        }
    }

    /** Promises 9 and 10: all runs, one run, and the least weight that there is. */
    private static void weightEdges() {
        ChancePrograms x = new ChancePrograms();
        for (int n = 0; n < 6; n++) {
            x.put(DRAW, n % 3, 0);
        }
        due("9: all of 4096 runs", x.weight(), ALL);
        due("10: a quarter of them", x.weightOf(2, 3), ALL / 4);
        due("11: a sixteenth of them", x.joint(0, 3, 2, 3), ALL / 16);
        x.clear();
        for (int n = 0; n < 6; n++) {
            x.put(FLIP, 0, 1);
            putOnVariable(x, KEEP, 0, 0);
        }
        due("9: one run of weight 1", x.weight(), 1);
        due("10: it ends with 1", x.weightOf(0, 1), 1);
        due("10: and not with 0", x.weightOf(0, 0), 0);
        due("11: joint(0, 1, 1, 0)", x.joint(0, 1, 1, 0), 1);
        due("12: expected(0)", x.expected(0), 1);
        due("16: visits(11)", x.visits(11), 1);
    }

    /** Promise 11: "v and w may be the same" */
    private static void jointOfOneVariable() {
        for (int v = 0; v < 3; v++) {
            ChancePrograms x = new ChancePrograms();
            x.put(DRAW, v, 0);
            putOnVariable(x, KEEP, 0, v);
            for (int k = 0; k < 4; k++) {
                for (int l = 0; l < 4; l++) {
                    int want = k == l && k != 0 ? ALL / 4 : 0;
                    due("11: joint(" + v + ", " + k + ", " + v + ", " + l + ")", x.joint(v, k, v, l), want);
                }
            }
        }
    }

    /** Promise 12: the least and the greatest sum. */
    private static void expectedEdges() {
        ChancePrograms x = new ChancePrograms();
        for (int v = 0; v < 3; v++) {
            putOnValue(x, SET, v, 3);
            due("12: the greatest, of " + v, x.expected(v), 50331648);
        }
        x.clear();
        x.put(DRAW, 0, 0);
        putOnEqual(x, KEEP, 0, 0, 0);
        due("12: the least", x.expected(0), 0);
        x.drop();
        due("12: of all values", x.expected(0), ALL / 4 + ALL / 4 * 2 + ALL / 4 * 3);
    }

    /** Promises 13 and 14: "-2 if weight() is 0", and the -1 of "Terms" before it */
    private static void topAndBottomOfNoRun() {
        for (Build build : programsOfNoKeptRun()) {
            for (int k = 0; k < 4; k++) {
                int value = k;
                refused("13: top(0, " + k + ") of none", build, x -> x.top(0, value), -2);
                refused("14: bottom(2, " + k + ") of none", build, x -> x.bottom(2, value), -2);
            }
            refused("13: top(3, 0) of none", build, x -> x.top(3, 0), -1);
            refused("13: top(0, 4) of none", build, x -> x.top(0, 4), -1);
            refused("13: top(-1, 0) of none", build, x -> x.top(-1, 0), -1);
            refused("13: top(0, -1) of none", build, x -> x.top(0, -1), -1);
            refused("14: bottom(3, 0) of none", build, x -> x.bottom(3, 0), -1);
            refused("14: bottom(0, 4) of none", build, x -> x.bottom(0, 4), -1);
            refused("14: bottom(-1, 0) of none", build, x -> x.bottom(-1, 0), -1);
            refused("14: bottom(0, -1) of none", build, x -> x.bottom(0, -1), -1);
        }
    }

    private static void dueFraction(ChancePrograms x, int v, int k, int top, int bottom) {
        due("13: top(" + v + ", " + k + ")", x.top(v, k), top);
        due("14: bottom(" + v + ", " + k + ")", x.bottom(v, k), bottom);
    }

    /** Promises 13 and 14: weightOf(v, k) is 0, all of weight(), or a part with and without a divisor. */
    private static void topAndBottomEdges() {
        for (int p = 0; p <= 16; p++) {
            ChancePrograms x = new ChancePrograms();
            x.put(FLIP, 1, p);
            int divisor = 16;
            while (p % divisor != 0 || 16 % divisor != 0) {
                divisor--;
            }
            dueFraction(x, 1, 1, p / divisor, 16 / divisor);
            dueFraction(x, 1, 0, (16 - p) / divisor, 16 / divisor);
            dueFraction(x, 1, 2, 0, 1);
            dueFraction(x, 0, 0, 1, 1);
        }
        ChancePrograms x = new ChancePrograms();
        x.put(DRAW, 0, 0);
        putOnVariable(x, KEEP, 0, 0);
        dueFraction(x, 0, 3, 1, 3);
        dueFraction(x, 0, 0, 0, 1);
        dueFraction(x, 1, 0, 1, 1);
    }

    /** Promises 13 and 14: numbers without a common divisor, up to the greatest that there are. */
    private static void topAndBottomOfLargeNumbers() {
        ChancePrograms x = new ChancePrograms();
        // Variable 1 stays 0 only if all six FLIPs give 1.
        open(x, "L");
        x.put(LOOP, 0, 3);
        x.put(FLIP, 0, 1);
        x.push(VAR, 1);
        x.push(VAR, 0);
        x.push(NOT, 0);
        x.push(CHOICE, 0);
        x.put(SET, 1, 0);
        dueFraction(x, 1, 0, 1, ALL);
        dueFraction(x, 1, 1, ALL - 1, ALL);
        x.tune(2, 15);
        dueFraction(x, 1, 0, 11390625, ALL);
        dueFraction(x, 1, 1, 5386591, ALL);
    }

    /** Promise 15: "as whole numbers" */
    private static void independentAsWholeNumbers() {
        ChancePrograms x = new ChancePrograms();
        // Both products are multiples of 2 to the 32nd, for all values, and yet they differ.
        x.put(FLIP, 0, 8);
        putOnVariable(x, SET, 1, 0);
        due("15: copies", x.independent(0, 1), 0);
        x.clear();
        x.put(DRAW, 0, 0);
        putOnVariable(x, SET, 2, 0);
        due("15: copies of a DRAW", x.independent(0, 2), 0);
        x.clear();
        // The least leaning there is: one run of weight 1 has other values than the rest.
        x.put(LOOP, 0, 3);
        x.put(FLIP, 0, 1);
        x.put(FLIP, 1, 1);
        x.push(VAR, 0);
        x.push(VAR, 1);
        x.push(BOTH, 0);
        x.push(NOT, 0);
        x.put(IF, 0, 0);
        putOnValue(x, SET, 2, 1);
        due("15: the least leaning: weightOf(2, 0)", x.weightOf(2, 0), 1);
        due("15: the least leaning of 0", x.independent(0, 2), 0);
        due("15: the least leaning of 1", x.independent(2, 1), 0);
        due("15: what does not lean", x.independent(0, 1), 1);
        x.clear();
        // Parts that are no whole numbers as fractions of the weight, and yet independent.
        x.put(DRAW, 0, 0);
        putOnVariable(x, KEEP, 0, 0);
        x.put(DRAW, 1, 0);
        putOnVariable(x, KEEP, 0, 1);
        x.put(FLIP, 2, 7);
        due("15: thirds", x.independent(0, 1), 1);
        due("15: thirds and sixteenths", x.independent(1, 2), 1);
        x.put(FLIP, 2, 7);
        x.put(FLIP, 2, 11);
        due("15: weights of many factors", x.independent(2, 0), 1);
    }

    /** Promise 15: "for all values k and l": one pair of values is enough to tell. */
    private static void independentOfEachPair() {
        for (int k = 0; k < 4; k++) {
            for (int l = 0; l < 4; l++) {
                ChancePrograms x = new ChancePrograms();
                x.put(DRAW, 0, 0);
                x.put(DRAW, 2, 0);
                due("15: before the pair is dropped", x.independent(0, 2), 1);
                x.push(VAR, 0);
                x.push(CONST, k);
                x.push(EQUAL, 0);
                x.push(VAR, 2);
                x.push(CONST, l);
                x.push(EQUAL, 0);
                x.push(BOTH, 0);
                x.push(NOT, 0);
                x.put(KEEP, 0, 0);
                due("15: without " + k + " and " + l, x.independent(0, 2), 0);
                due("15: without " + k + " and " + l + ", the other way", x.independent(2, 0), 0);
                due("15: and variable 1 is still independent", x.independent(1, 0), 1);
            }
        }
    }

    /** Promise 15 where v and w are the same. */
    private static void independentOfItself() {
        ChancePrograms x = new ChancePrograms();
        for (int v = 0; v < 3; v++) {
            due("15: 0 alone: independent(" + v + ", " + v + ")", x.independent(v, v), 1);
            putOnValue(x, SET, v, 3);
            due("15: 3 alone: independent(" + v + ", " + v + ")", x.independent(v, v), 1);
            x.put(FLIP, v, 16);
            due("15: p 16: independent(" + v + ", " + v + ")", x.independent(v, v), 1);
            x.put(FLIP, v, 15);
            due("15: p 15: independent(" + v + ", " + v + ")", x.independent(v, v), 0);
        }
    }

    /** Promise 15 where weight() is 0: both products are 0. */
    private static void independentOfNoRun() {
        for (Build build : programsOfNoKeptRun()) {
            for (int v = 0; v < 3; v++) {
                for (int w = 0; w < 3; w++) {
                    ChancePrograms x = new ChancePrograms();
                    build.on(x);
                    due("15: independent(" + v + ", " + w + ") of none", x.independent(v, w), 1);
                }
            }
        }
    }

    /** Promise 16: "There is no statement i: -1" */
    private static void visitsOfNoStatement() {
        refused("16: visits(0) of nothing", NOTHING, x -> x.visits(0), -1);
        int[] none = {-1, 10, 11, 23, 24, 26, 27};
        for (int i : none) {
            refused("16: visits(" + i + ")", Edges::rich, x -> x.visits(i), -1);
        }
        for (int i : FAR_OUT) {
            refused("16: visits(" + i + ")", Edges::rich, x -> x.visits(i), -1);
        }
        refused("16: visits(24) of 24", Edges::bareOf24, x -> x.visits(24), -1);
        refused("16: visits(3) of noneKept", Edges::noneKept, x -> x.visits(3), -1);
        refused("16: the END that an open block lacks", x -> open(x, "LLL"), x -> x.visits(3), -1);
        refused("16: an ELSE that was dropped", x -> {
            open(x, "E");
            x.drop();
        }, x -> x.visits(1), -1);
        ChancePrograms x = new ChancePrograms();
        for (int n = 0; n < 24; n++) {
            putCount(x, 0);
            due("16: visits(" + n + "), the last", x.visits(n), ALL);
            due("16: visits(" + (n + 1) + "), behind it", x.visits(n + 1), -1);
        }
        due("16: visits(0), the first", x.visits(0), ALL);
        due("16: visits(-1), before it", x.visits(-1), -1);
    }

    /** Promise 16: "it is an ELSE or an END: -2" */
    private static void visitsOfElseAndEnd() {
        refused("16: ELSE", Edges::rich, x -> x.visits(7), -2);
        refused("16: END of an IF", Edges::rich, x -> x.visits(9), -2);
        refused("16: END of a LOOP", x -> {
            open(x, "L");
            end(x, 1);
        }, x -> x.visits(1), -2);
        Build none = x -> {
            putOnValue(x, KEEP, 0, 0);
            open(x, "E");
            end(x, 1);
        };
        refused("16: ELSE with no run kept", none, x -> x.visits(2), -2);
        refused("16: END with no run kept", none, x -> x.visits(3), -2);
        // All other kinds are come to twice in the LOOP, but for the BREAK.
        long[] wants = {2L * ALL, 2L * ALL, 2L * ALL, 2L * ALL, 2L * ALL, -2, 2L * ALL, ALL, -2};
        for (int kind = SET; kind <= END; kind++) {
            ChancePrograms x = new ChancePrograms();
            open(x, "LI");
            x.push(CONST, 1);
            x.put(kind, 0, 1);
            due("16: kind " + kind, x.visits(2), wants[kind]);
        }
        // The last place of a full program.
        ChancePrograms x = new ChancePrograms();
        bareOf24(x);
        due("16: END as the last of 24", x.visits(23), -2);
        due("16: LOOP before it", x.visits(22), ALL);
    }

    /** Promise 16: "a LOOP is come to once whenever it begins" */
    private static void visitsOfLoop() {
        for (int p = 1; p <= 3; p++) {
            for (int q = 1; q <= 3; q++) {
                ChancePrograms x = new ChancePrograms();
                x.put(LOOP, 0, p);
                x.put(LOOP, 0, q);
                putCount(x, 0);
                String loops = "16: LOOP " + p + " and " + q + ": ";
                for (int ended = 0; ended < 3; ended++) {
                    due(loops + "the outer one", x.visits(0), ALL);
                    due(loops + "the inner one", x.visits(1), (long) p * ALL);
                    due(loops + "what stands in them", x.visits(2), (long) p * q * ALL);
                    end(x, 1);
                }
            }
        }
        ChancePrograms x = new ChancePrograms();
        putOnVariable(x, IF, 0, 0);
        x.put(LOOP, 0, 3);
        due("16: a LOOP that is left out", x.visits(1), 0);
        x.clear();
        x.put(LOOP, 0, 3);
        x.put(BREAK, 0, 0);
        due("16: a LOOP that is left by BREAK", x.visits(0), ALL);
        due("16: the BREAK in it", x.visits(1), ALL);
        x.clear();
        x.put(LOOP, 0, 3);
        due("16: an empty LOOP at the end", x.visits(0), ALL);
    }

    /** Promise 16: "over all runs that are kept" */
    private static void visitsOfRunsThatAreNotKept() {
        ChancePrograms x = new ChancePrograms();
        x.put(DRAW, 0, 0);
        putOnEqual(x, IF, 0, 0, 3);
        putCount(x, 1);
        end(x, 1);
        due("16: before a KEEP", x.visits(2), ALL / 4);
        putOnEqual(x, KEEP, 0, 0, 3);
        due("16: the KEEP keeps them", x.visits(2), ALL / 4);
        due("16: and no others", x.visits(0), ALL / 4);
        due("16: at the KEEP itself", x.visits(4), ALL / 4);
        x.drop();
        x.push(VAR, 1);
        x.push(NOT, 0);
        x.put(KEEP, 0, 0);
        due("16: the KEEP drops them", x.visits(2), 0);
        due("16: and no others", x.visits(0), ALL / 4 * 3);
    }

    /** Promise 17: "Answers the values at the end as v0 + 4 * v1 + 16 * v2": from 0 to 63 */
    private static void followKept() {
        for (int values = 0; values < 64; values++) {
            ChancePrograms x = new ChancePrograms();
            for (int v = 0; v < 3; v++) {
                putOnValue(x, SET, v, values >> (2 * v) & 3);
            }
            due("17: values " + values, x.follow(0), values);
        }
        // Each of the six outcomes goes to the step of its number, and no later one is looked at.
        for (int j = 0; j < 6; j++) {
            ChancePrograms x = new ChancePrograms();
            for (int n = 0; n < 6; n++) {
                x.put(DRAW, n == j ? 1 : 0, 0);
            }
            for (int outcome = 0; outcome < 4; outcome++) {
                int last = j == 5 ? 0 : 1 << 10;
                int want = 4 * outcome + (j == 5 ? 0 : 1);
                due("17: outcome number " + j, x.follow(outcome << (2 * j) | last), want);
                due("17: and bits above", x.follow(outcome << (2 * j) | last | 0x7ffff000), want);
                due("17: and bits above, below 0", x.follow(outcome << (2 * j) | last | 0xfffff000), want);
            }
        }
    }

    /** Promise 17: outcomes below 0 */
    private static void followBelowZero() {
        ChancePrograms x = new ChancePrograms();
        for (int v = 0; v < 3; v++) {
            x.put(DRAW, v, 0);
        }
        for (int values = 0; values < 64; values++) {
            due("17: follow(" + (values - 64) + ")", x.follow(values - 64), values);
            due("17: follow(MIN + " + values + ")", x.follow(Integer.MIN_VALUE + values), values);
        }
        for (int v = 0; v < 3; v++) {
            x.put(DRAW, v, 0);
        }
        due("17: six outcomes of -1", x.follow(-1), 63);
        due("17: six outcomes of MIN", x.follow(Integer.MIN_VALUE), 0);
        due("17: six outcomes of -4096", x.follow(-4096), 0);
        due("17: six outcomes of -1024", x.follow(-1024), 48);
        x.clear();
        x.put(FLIP, 0, 8);
        due("17: FLIP, -1", x.follow(-1), -4);
        due("17: FLIP, -2", x.follow(-2), -4);
        due("17: FLIP, -3", x.follow(-3), 1);
        due("17: FLIP, -4", x.follow(-4), 0);
    }

    /** Promise 17: "-2 when KEEP drops it" */
    private static void followDroppedByKeep() {
        Build build = x -> {
            x.put(DRAW, 0, 0);
            putOnVariable(x, KEEP, 0, 0);
            x.put(FLIP, 1, 5);
        };
        refused("17: KEEP drops 0", build, x -> x.follow(0), -2);
        refused("17: KEEP drops 0, what follows is not looked at", build, x -> x.follow(12), -2);
        for (int outcome = 1; outcome < 4; outcome++) {
            ChancePrograms x = new ChancePrograms();
            build.on(x);
            due("17: KEEP lets " + outcome + " go on", x.follow(outcome), outcome);
        }
        refused("17: KEEP as the first statement", x -> putOnValue(x, KEEP, 0, 0), x -> x.follow(0), -2);
        refused("17: KEEP in the last round of an open LOOP", x -> {
            x.put(LOOP, 0, 3);
            putCount(x, 0);
            x.push(VAR, 0);
            x.push(CONST, 3);
            x.push(LESS, 0);
            x.put(KEEP, 0, 0);
        }, x -> x.follow(0), -2);
    }

    private static void steps(ChancePrograms x, int kind, int count) {
        for (int n = 0; n < count; n++) {
            x.put(kind, n % 3, 8);
        }
    }

    /** Promise 17: "-3 when it comes to a seventh random step" */
    private static void followSeventhStep() {
        for (int kind = FLIP; kind <= DRAW; kind++) {
            int any = kind;
            for (int count = 0; count <= 6; count++) {
                ChancePrograms x = new ChancePrograms();
                steps(x, kind, count);
                due("17: steps " + count + " of kind " + kind, x.follow(0), 0);
            }
            refused("17: seven steps of kind " + kind, x -> steps(x, any, 7), x -> x.follow(0), -3);
            refused("17: 24 steps of kind " + kind, x -> steps(x, any, 24), x -> x.follow(0), -3);
        }
        refused("17: seven steps by an open LOOP", x -> {
            x.put(DRAW, 0, 0);
            x.put(LOOP, 0, 3);
            x.put(DRAW, 1, 0);
            x.put(DRAW, 2, 0);
        }, x -> x.follow(-1), -3);
    }

    /** Promise 17: a run is dropped where it comes to the seventh step, so it has no seventh outcome. */
    private static void followSeventhStepWhateverTheOutcomes() {
        for (int p = 0; p <= 16; p += 8) {
            ChancePrograms x = new ChancePrograms();
            steps(x, DRAW, 6);
            x.put(FLIP, 0, p);
            for (int seventh = 0; seventh < 4; seventh++) {
                for (int six = 0; six < 4096; six += 117) {
                    int outcomes = six + (seventh << 12);
                    due("17: seventh step with p " + p + ", outcomes " + outcomes, x.follow(outcomes), -3);
                }
            }
        }
    }

    /** Promise 17: "-4 when an outcome would have weight 0, or is 2 or 3 at a FLIP" */
    private static void followWrongOutcome() {
        for (int p = 0; p <= 16; p++) {
            int any = p;
            ChancePrograms x = new ChancePrograms();
            x.put(FLIP, 2, p);
            due("17: outcome 0 with p " + p, x.follow(0), p == 16 ? -4 : 0);
            due("17: outcome 1 with p " + p, x.follow(1), p == 0 ? -4 : 16);
            for (int outcome = 2; outcome < 4; outcome++) {
                int wrong = outcome;
                refused("17: outcome " + outcome + " with p " + p, y -> y.put(FLIP, 2, any), y -> y.follow(wrong), -4);
            }
        }
        refused("17: outcome 1 with p 0", x -> x.put(FLIP, 0, 0), x -> x.follow(1), -4);
        refused("17: outcome 0 with p 16", x -> x.put(FLIP, 0, 16), x -> x.follow(0), -4);
        for (int j = 0; j < 6; j++) {
            int at = j;
            refused("17: outcome 2 at the FLIP number " + j, x -> steps(x, FLIP, 6), x -> x.follow(2 << (2 * at)), -4);
            refused("17: outcome 3 at the FLIP number " + j, x -> steps(x, FLIP, 6), x -> x.follow(3 << (2 * at)), -4);
        }
        ChancePrograms x = new ChancePrograms();
        x.put(DRAW, 0, 0);
        due("17: outcome 2 at a DRAW", x.follow(2), 2);
        due("17: outcome 3 at a DRAW", x.follow(3), 3);
    }

    /** Promise 17: "by what happens first in it" */
    private static void followFirst() {
        Build wrongThenKeep = x -> {
            x.put(FLIP, 0, 8);
            putOnValue(x, KEEP, 0, 0);
            steps(x, DRAW, 6);
        };
        refused("17: -4 before -2", wrongThenKeep, x -> x.follow(2), -4);
        refused("17: -2 before -3", wrongThenKeep, x -> x.follow(1), -2);
        Build keepThenWrong = x -> {
            x.put(DRAW, 0, 0);
            putOnVariable(x, KEEP, 0, 0);
            x.put(FLIP, 1, 8);
            steps(x, DRAW, 5);
        };
        refused("17: -2 before -4", keepThenWrong, x -> x.follow(8), -2);
        refused("17: -4 before -3", keepThenWrong, x -> x.follow(1 + 8), -4);
        refused("17: -3 with neither before it", keepThenWrong, x -> x.follow(1 + 4), -3);
        Build seventhThenKeep = x -> {
            steps(x, DRAW, 6);
            x.put(FLIP, 0, 0);
            putOnValue(x, KEEP, 0, 0);
        };
        refused("17: -3 before -2", seventhThenKeep, x -> x.follow(0), -3);
        refused("17: -3 at a FLIP whose outcome would be wrong", seventhThenKeep, x -> x.follow(1 << 12), -3);
        refused("17: -3 at a FLIP whose outcome would be 3", seventhThenKeep, x -> x.follow(-1), -3);
    }

    /** Promise 18: "0 if there is none" */
    private static void greatestOfNone() {
        for (Build build : programsOfNoKeptRun()) {
            refused("18: greatest() of none", build, ChancePrograms::greatest, 0);
        }
        ChancePrograms x = new ChancePrograms();
        rich(x);
        end(x, 1);
        holds("18: greatest() of the rich program", x.greatest() > 0);
        putOnValue(x, KEEP, 0, 0);
        due("18: none is left of before", x.greatest(), 0);
        x.drop();
        holds("18: and they are kept again", x.greatest() > 0);
    }

    /** Promise 18: from the weight 1 to 16 to the sixth. */
    private static void greatestEdges() {
        for (int p = 1; p <= 16; p++) {
            ChancePrograms x = new ChancePrograms();
            int want = 1;
            for (int n = 0; n < 6; n++) {
                x.put(FLIP, 0, p);
                putOnVariable(x, KEEP, 0, 0);
                want *= p;
            }
            due("18: six times " + p, x.greatest(), want);
        }
        ChancePrograms x = new ChancePrograms();
        x.put(DRAW, 0, 0);
        due("18: not the sum of all", x.greatest(), ALL / 4);
    }

    /** Promise 19: "-2 if it has no such step, or no run is kept, or j is below 0" */
    private static void likelyOfNoStep() {
        for (int count = 0; count <= 6; count++) {
            ChancePrograms x = new ChancePrograms();
            for (int n = 0; n < count; n++) {
                x.put(FLIP, 0, 9 + n);
            }
            for (int j = 0; j <= 7; j++) {
                due("19: likely(" + j + ") of " + count, x.likely(j), j < count ? 1 : -2);
            }
            int all = count;
            Build build = y -> {
                for (int n = 0; n < all; n++) {
                    y.put(FLIP, 0, 9 + n);
                }
            };
            refused("19: likely(-1) of " + count, build, y -> y.likely(-1), -2);
            refused("19: likely(" + count + ") of as many", build, y -> y.likely(all), -2);
            for (int j : FAR_OUT) {
                refused("19: likely(" + j + ") of " + count, build, y -> y.likely(j), -2);
            }
        }
        for (Build build : programsOfNoKeptRun()) {
            refused("19: likely(0) of none", build, x -> x.likely(0), -2);
            refused("19: likely(-1) of none", build, x -> x.likely(-1), -2);
            refused("19: likely(6) of none", build, x -> x.likely(6), -2);
        }
        // A run that was the likeliest before leaves nothing behind.
        ChancePrograms x = new ChancePrograms();
        x.put(FLIP, 0, 9);
        due("19: likely(0) before", x.likely(0), 1);
        putOnValue(x, KEEP, 0, 0);
        due("19: likely(0) of none after it", x.likely(0), -2);
        x.clear();
        due("19: likely(0) of nothing after it", x.likely(0), -2);
    }

    /** Promise 19: "take the first" */
    private static void likelyTakesTheFirst() {
        for (int least = 0; least < 4; least++) {
            ChancePrograms x = new ChancePrograms();
            x.put(DRAW, 0, 0);
            x.push(VAR, 0);
            x.push(CONST, least);
            x.push(LESS, 0);
            x.push(NOT, 0);
            x.put(KEEP, 0, 0);
            due("19: the first of those from " + least + " on", x.likely(0), least);
        }
        ChancePrograms x = new ChancePrograms();
        x.put(FLIP, 0, 8);
        due("19: p 8: 0 is the first", x.likely(0), 0);
        x.tune(0, 9);
        due("19: p 9: 1 is greater", x.likely(0), 1);
        x.tune(0, 7);
        due("19: p 7: 0 is greater", x.likely(0), 0);
        x.clear();
        steps(x, DRAW, 6);
        for (int j = 0; j < 6; j++) {
            due("19: all alike: likely(" + j + ")", x.likely(j), 0);
        }
    }

    /** Promise 19: "Of the runs that are kept with the greatest weight": wherever it stands in the order */
    private static void likelyTakesTheGreatest() {
        for (int target = 0; target < 64; target++) {
            ChancePrograms x = new ChancePrograms();
            for (int j = 0; j < 6; j++) {
                x.put(FLIP, j % 3, (target >> j & 1) == 1 ? 9 : 7);
            }
            due("19: greatest() of target " + target, x.greatest(), 531441);
            for (int j = 0; j < 6; j++) {
                due("19: likely(" + j + ") of target " + target, x.likely(j), target >> j & 1);
            }
        }
    }
}
