/** Promises 9 to 19, and the terms that they rest on: what the runs of a program come to. */
public final class RunsTest extends Checks {
    public static void main(String[] args) {
        wrongArguments();
        randomSteps();
        keepAndOrder();
        ifAndElse();
        loops();
        breaks();
        openBlocks();
        weight();
        weightOf();
        joint();
        expected();
        topAndBottom();
        topOfLargeFractions();
        independent();
        independentOfLargeProducts();
        visits();
        visitsOfLoops();
        follow();
        followFirstCause();
        greatestAndLikely();
        likelyTies();
        likelyOfLengths();
        questionsChangeNothing();
        finish();
    }

    private static void wrongArguments() {
        ChancePrograms x = new ChancePrograms();
        askWrongly(x);
        // Where no run is kept, -1 still goes before -2.
        putOnValue(x, KEEP, 0, 0);
        askWrongly(x);
    }

    private static void askWrongly(ChancePrograms x) {
        for (int v : NO_VARIABLES) {
            due("10: weightOf(" + v + ", 0)", x.weightOf(v, 0), -1);
            due("11: joint(" + v + ", 0, 0, 0)", x.joint(v, 0, 0, 0), -1);
            due("11: joint(0, 0, " + v + ", 0)", x.joint(0, 0, v, 0), -1);
            due("12: expected(" + v + ")", x.expected(v), -1);
            due("13: top(" + v + ", 0)", x.top(v, 0), -1);
            due("14: bottom(" + v + ", 0)", x.bottom(v, 0), -1);
            due("15: independent(" + v + ", 0)", x.independent(v, 0), -1);
            due("15: independent(0, " + v + ")", x.independent(0, v), -1);
        }
        for (int k : NO_VALUES) {
            due("10: weightOf(0, " + k + ")", x.weightOf(0, k), -1);
            due("11: joint(0, " + k + ", 0, 0)", x.joint(0, k, 0, 0), -1);
            due("11: joint(0, 0, 0, " + k + ")", x.joint(0, 0, 0, k), -1);
            due("13: top(0, " + k + ")", x.top(0, k), -1);
            due("14: bottom(0, " + k + ")", x.bottom(0, k), -1);
        }
    }

    private static void randomSteps() {
        ChancePrograms x = new ChancePrograms();
        x.put(FLIP, 1, 5);
        due("FLIP: weightOf(1, 1)", x.weightOf(1, 1), ALL / 16 * 5);
        due("FLIP: weightOf(1, 0)", x.weightOf(1, 0), ALL / 16 * 11);
        due("FLIP: weightOf(1, 2)", x.weightOf(1, 2), 0);
        due("FLIP: weightOf(1, 3)", x.weightOf(1, 3), 0);
        x.put(DRAW, 1, 0);
        for (int k = 0; k < 4; k++) {
            due("DRAW: weightOf(1, " + k + ")", x.weightOf(1, k), ALL / 4);
            due("DRAW: follow(" + (1 + 4 * k) + ")", x.follow(1 + 4 * k), 4 * k);
        }
        x.put(FLIP, 1, 16);
        due("FLIP after DRAW: weightOf(1, 1)", x.weightOf(1, 1), ALL);
        x.put(FLIP, 1, 0);
        due("FLIP after FLIP: weightOf(1, 0)", x.weightOf(1, 0), ALL);
        due("an outcome of weight 0 is no run", x.greatest(), 11 * 4 * 16 * 16 * 16 * 16);
        x.put(DRAW, 0, 0);
        x.put(DRAW, 0, 0);
        due("six random steps", x.weight(), ALL);
        due("six random steps, greatest", x.greatest(), 11 * 4 * 16 * 16 * 4 * 4);
        x.put(FLIP, 0, 16);
        due("a seventh random step", x.weight(), 0);
    }

    private static void keepAndOrder() {
        ChancePrograms x = new ChancePrograms();
        x.put(DRAW, 0, 0);
        putOnVariable(x, KEEP, 0, 0);
        due("KEEP drops 0", x.follow(0), -2);
        for (int k = 1; k < 4; k++) {
            due("KEEP keeps " + k, x.follow(k), k);
        }
        due("KEEP: weight()", x.weight(), ALL / 4 * 3);
        x.put(DRAW, 0, 0);
        due("KEEP looked at the value of its time", x.follow(1), 0);
        due("KEEP: weightOf(0, 0)", x.weightOf(0, 0), ALL / 16 * 3);
    }

    private static void ifAndElse() {
        ChancePrograms x = new ChancePrograms();
        x.put(DRAW, 0, 0);
        putOnVariable(x, IF, 0, 0);
        putOnValue(x, SET, 1, 1);
        due("IF 0 in an open block", x.follow(0), 0);
        due("IF 2 in an open block", x.follow(2), 2 + 4);
        x.put(END, 0, 0);
        putOnValue(x, SET, 2, 1);
        due("IF 0", x.follow(0), 16);
        due("IF 1", x.follow(1), 1 + 4 + 16);
        due("IF 3", x.follow(3), 3 + 4 + 16);
        x.drop();
        x.drop();
        x.put(ELSE, 0, 0);
        putOnValue(x, SET, 1, 2);
        due("ELSE of 0", x.follow(0), 4 * 2);
        due("ELSE of 2", x.follow(2), 2 + 4);
        x.put(END, 0, 0);
        putOnValue(x, SET, 2, 3);
        due("ELSE of 0, and behind", x.follow(0), 4 * 2 + 16 * 3);
        due("ELSE of 1, and behind", x.follow(1), 1 + 4 + 16 * 3);
        x.clear();
        // What is carried out before the ELSE makes x 0, but x is what it was at the IF.
        putOnValue(x, SET, 0, 2);
        putOnVariable(x, IF, 0, 0);
        putOnValue(x, SET, 0, 0);
        x.put(ELSE, 0, 0);
        putOnValue(x, SET, 1, 3);
        due("ELSE asks what x was", x.follow(0), 0);
        nestedIfs();
    }

    private static void nestedIfs() {
        ChancePrograms x = new ChancePrograms();
        x.put(DRAW, 0, 0);
        x.put(DRAW, 1, 0);
        putOnVariable(x, IF, 0, 0);
        putOnVariable(x, IF, 0, 1);
        putOnValue(x, SET, 2, 1);
        x.put(ELSE, 0, 0);
        putOnValue(x, SET, 2, 2);
        x.put(END, 0, 0);
        x.put(ELSE, 0, 0);
        putOnValue(x, SET, 2, 3);
        x.put(END, 0, 0);
        due("nested IF: 0, 0", x.follow(0), 16 * 3);
        due("nested IF: 0, 1", x.follow(4), 4 + 16 * 3);
        due("nested IF: 1, 0", x.follow(1), 1 + 16 * 2);
        due("nested IF: 1, 1", x.follow(5), 5 + 16);
    }

    private static void loops() {
        ChancePrograms x = new ChancePrograms();
        for (int p = 1; p <= 3; p++) {
            x.clear();
            x.put(LOOP, 0, p);
            putCount(x, 0);
            x.put(END, 0, 0);
            putCount(x, 1);
            due("LOOP " + p, x.follow(0), p + 4);
        }
        x.clear();
        x.put(LOOP, 0, 3);
        putCount(x, 0);
        x.put(LOOP, 0, 2);
        putCount(x, 1);
        x.put(LOOP, 0, 3);
        putCount(x, 2);
        x.put(END, 0, 0);
        x.put(END, 0, 0);
        x.put(END, 0, 0);
        due("LOOPs in LOOPs", x.follow(0), 3 + 4 * (6 % 4) + 16 * (18 % 4));
        x.clear();
        x.put(LOOP, 0, 3);
        x.put(END, 0, 0);
        putCount(x, 0);
        due("an empty LOOP", x.follow(0), 1);
        x.clear();
        x.put(LOOP, 0, 3);
        x.put(DRAW, 0, 0);
        putOnVariable(x, KEEP, 0, 0);
        due("random steps in a LOOP", x.weight(), ALL / 64 * 27);
        due("KEEP in the third round", x.follow(1 + 4 * 2), -2);
    }

    private static void breaks() {
        ChancePrograms x = new ChancePrograms();
        x.put(LOOP, 0, 3);
        putCount(x, 0);
        putOnEqual(x, IF, 0, 0, 2);
        x.put(BREAK, 0, 0);
        x.put(END, 0, 0);
        putCount(x, 1);
        x.put(END, 0, 0);
        putCount(x, 2);
        due("BREAK in the second round", x.follow(0), 2 + 4 + 16);
        x.clear();
        x.put(LOOP, 0, 3);
        putCount(x, 0);
        x.put(LOOP, 0, 3);
        putCount(x, 1);
        x.put(BREAK, 0, 0);
        putCount(x, 1);
        x.put(END, 0, 0);
        putCount(x, 2);
        x.put(END, 0, 0);
        due("BREAK of the inner LOOP alone", x.follow(0), 3 + 4 * 3 + 16 * 3);
        x.clear();
        x.put(LOOP, 0, 3);
        x.put(LOOP, 0, 3);
        putCount(x, 0);
        x.put(END, 0, 0);
        x.put(BREAK, 0, 0);
        x.put(END, 0, 0);
        putCount(x, 1);
        due("BREAK of the outer LOOP behind the inner one", x.follow(0), 3 + 4);
        x.clear();
        x.put(LOOP, 0, 3);
        putCount(x, 0);
        putOnValue(x, IF, 0, 0);
        x.put(ELSE, 0, 0);
        x.put(BREAK, 0, 0);
        putCount(x, 1);
        due("BREAK in ELSE, all blocks open", x.follow(0), 1);
    }

    private static void openBlocks() {
        ChancePrograms x = new ChancePrograms();
        x.put(LOOP, 0, 3);
        putCount(x, 0);
        due("an open LOOP", x.follow(0), 3);
        putOnValue(x, IF, 0, 1);
        x.put(LOOP, 0, 2);
        putCount(x, 1);
        due("an open LOOP in an IF in a LOOP", x.follow(0), 3 + 4 * (6 % 4));
        due("visits(4)", x.visits(4), 6L * ALL);
        x.drop();
        x.drop();
        putCount(x, 2);
        x.put(ELSE, 0, 0);
        putCount(x, 1);
        due("an open ELSE in an open LOOP", x.follow(0), 3 + 16 * 3);
        due("visits(5)", x.visits(5), 0);
        x.clear();
        x.put(LOOP, 0, 2);
        x.put(LOOP, 0, 3);
        x.put(FLIP, 0, 8);
        due("six random steps of open LOOPs", x.weight(), ALL);
        x.put(END, 0, 0);
        due("the inner LOOP ended, the outer one open", x.weight(), ALL);
        x.put(FLIP, 0, 8);
        due("eight random steps of open LOOPs", x.weight(), 0);
    }

    private static void weight() {
        ChancePrograms x = new ChancePrograms();
        due("9: weight() of no statement", x.weight(), ALL);
        x.put(FLIP, 0, 3);
        x.put(FLIP, 1, 7);
        due("9: weight() with all runs kept", x.weight(), ALL);
        x.push(VAR, 0);
        x.push(VAR, 1);
        x.push(BOTH, 0);
        x.put(KEEP, 0, 0);
        due("9: weight() of one run in four", x.weight(), 3 * 7 * 65536);
        putOnValue(x, KEEP, 0, 0);
        due("9: weight() with no run kept", x.weight(), 0);
        x.clear();
        // A run that draws 0 comes to seven random steps, the others to four.
        x.put(DRAW, 0, 0);
        x.put(LOOP, 0, 3);
        x.put(DRAW, 1, 0);
        putOnEqual(x, IF, 0, 0, 0);
        x.put(DRAW, 2, 0);
        due("9: weight() without the runs that are too long", x.weight(), ALL / 4 * 3);
        x.clear();
        // It is dropped at the seventh step, not after the sixth.
        for (int n = 0; n < 6; n++) {
            x.put(FLIP, 0, 7);
        }
        putOnVariable(x, IF, 0, 0);
        x.put(DRAW, 1, 0);
        x.put(END, 0, 0);
        due("9: weight() with a seventh step for some", x.weight(), ALL / 16 * 9);
        x.clear();
        for (int n = 0; n < 6; n++) {
            x.put(DRAW, n % 3, 0);
        }
        due("9: weight() of the most runs", x.weight(), ALL);
    }

    private static void weightOf() {
        ChancePrograms x = new ChancePrograms();
        x.put(DRAW, 0, 0);
        x.put(FLIP, 1, 6);
        x.push(VAR, 0);
        x.push(VAR, 1);
        x.push(TIMES, 0);
        x.put(SET, 2, 0);
        int unit = ALL / 64;
        int[] wants = {16 + 16 + 16 + 16 - 6 - 6 - 6, 6, 6, 6};
        for (int k = 0; k < 4; k++) {
            due("10: weightOf(0, " + k + ")", x.weightOf(0, k), 16 * unit);
            due("10: weightOf(2, " + k + ")", x.weightOf(2, k), wants[k] * unit);
        }
        due("10: weightOf(1, 1)", x.weightOf(1, 1), 24 * unit);
        due("10: weightOf(1, 0)", x.weightOf(1, 0), 40 * unit);
        putOnVariable(x, KEEP, 0, 2);
        due("10: weightOf(2, 0) after KEEP", x.weightOf(2, 0), 0);
        due("10: weightOf(1, 1) after KEEP", x.weightOf(1, 1), 18 * unit);
        due("10: weightOf(0, 3) after KEEP", x.weightOf(0, 3), 6 * unit);
    }

    private static void joint() {
        ChancePrograms x = new ChancePrograms();
        x.put(FLIP, 0, 4);
        x.put(DRAW, 1, 0);
        putOnVariable(x, SET, 2, 1);
        due("11: joint(0, 1, 1, 3)", x.joint(0, 1, 1, 3), ALL / 16);
        due("11: joint(1, 3, 0, 1)", x.joint(1, 3, 0, 1), ALL / 16);
        due("11: joint(0, 0, 1, 0)", x.joint(0, 0, 1, 0), ALL / 16 * 3);
        due("11: joint(0, 2, 1, 0)", x.joint(0, 2, 1, 0), 0);
        due("11: joint(1, 2, 2, 2)", x.joint(1, 2, 2, 2), ALL / 4);
        due("11: joint(1, 2, 2, 1)", x.joint(1, 2, 2, 1), 0);
        due("11: joint(1, 2, 1, 2)", x.joint(1, 2, 1, 2), ALL / 4);
        due("11: joint(1, 2, 1, 3)", x.joint(1, 2, 1, 3), 0);
        putOnVariable(x, KEEP, 0, 0);
        due("11: joint(0, 0, 1, 0) after KEEP", x.joint(0, 0, 1, 0), 0);
        due("11: joint(0, 1, 2, 0) after KEEP", x.joint(0, 1, 2, 0), ALL / 16);
    }

    private static void expected() {
        ChancePrograms x = new ChancePrograms();
        due("12: expected(0) of 0", x.expected(0), 0);
        x.put(DRAW, 0, 0);
        x.put(FLIP, 1, 5);
        putOnValue(x, SET, 2, 3);
        due("12: expected(0)", x.expected(0), ALL / 4 * 6);
        due("12: expected(1)", x.expected(1), ALL / 16 * 5);
        due("12: expected(2), the greatest there is", x.expected(2), 3 * ALL);
        putOnVariable(x, KEEP, 0, 1);
        due("12: expected(0) after KEEP", x.expected(0), ALL / 64 * 5 * 6);
        due("12: expected(2) after KEEP", x.expected(2), ALL / 16 * 5 * 3);
        putOnValue(x, KEEP, 0, 0);
        due("12: expected(2) with no run kept", x.expected(2), 0);
    }

    /** Asks bottom on both sides of top, so that neither answer can rest on the other's count. */
    private static void dueFraction(ChancePrograms x, int v, int k, int top, int bottom) {
        due("14: bottom(" + v + ", " + k + ")", x.bottom(v, k), bottom);
        due("13: top(" + v + ", " + k + ")", x.top(v, k), top);
        due("14: bottom(" + v + ", " + k + ") again", x.bottom(v, k), bottom);
    }

    private static void topAndBottom() {
        ChancePrograms x = new ChancePrograms();
        dueFraction(x, 0, 0, 1, 1);
        dueFraction(x, 0, 1, 0, 1);
        x.put(FLIP, 0, 6);
        x.put(DRAW, 1, 0);
        dueFraction(x, 0, 1, 3, 8);
        dueFraction(x, 0, 0, 5, 8);
        dueFraction(x, 0, 2, 0, 1);
        dueFraction(x, 1, 3, 1, 4);
        putOnVariable(x, KEEP, 0, 1);
        dueFraction(x, 1, 0, 0, 1);
        dueFraction(x, 1, 2, 1, 3);
        dueFraction(x, 2, 0, 1, 1);
        x.push(VAR, 0);
        x.push(VAR, 1);
        x.push(CONST, 2);
        x.push(LESS, 0);
        x.push(CHOICE, 0);
        x.put(KEEP, 0, 0);
        // Kept are 1 with 1, 2 or 3, of weight 6 each, and 0 with 1, of weight 10.
        dueFraction(x, 0, 1, 9, 14);
        dueFraction(x, 1, 1, 4, 7);
        putOnValue(x, KEEP, 0, 0);
        dueFraction(x, 0, 1, -2, -2);
        dueFraction(x, 0, 0, -2, -2);
    }

    private static void topOfLargeFractions() {
        ChancePrograms x = new ChancePrograms();
        x.put(FLIP, 0, 6);
        due("13: top(0, 1) as the first question", x.top(0, 1), 3);
        x.clear();
        x.put(LOOP, 0, 3);
        x.put(LOOP, 0, 2);
        x.put(FLIP, 0, 15);
        putOnVariable(x, IF, 0, 0);
        x.put(ELSE, 0, 0);
        putOnValue(x, SET, 1, 1);
        dueFraction(x, 1, 0, 11390625, ALL);
        dueFraction(x, 1, 1, ALL - 11390625, ALL);
    }

    private static void independent() {
        ChancePrograms x = new ChancePrograms();
        due("15: independent(0, 1) of constants", x.independent(0, 1), 1);
        due("15: independent(0, 0) of a constant", x.independent(0, 0), 1);
        x.put(DRAW, 0, 0);
        x.put(FLIP, 1, 3);
        due("15: independent(0, 1)", x.independent(0, 1), 1);
        due("15: independent(1, 0)", x.independent(1, 0), 1);
        due("15: independent(0, 2)", x.independent(0, 2), 1);
        due("15: independent(0, 0)", x.independent(0, 0), 0);
        due("15: independent(1, 1)", x.independent(1, 1), 0);
        x.push(VAR, 0);
        x.push(VAR, 1);
        x.push(PLUS, 0);
        x.put(SET, 2, 0);
        due("15: independent(1, 2) of a sum with a DRAW", x.independent(1, 2), 1);
        due("15: independent(0, 2) of a sum with a FLIP", x.independent(0, 2), 0);
        putOnValue(x, KEEP, 0, 0);
        due("15: independent(0, 2) with no run kept", x.independent(0, 2), 1);
        x.clear();
        // Only the values 3 and 3 tell that these are not independent, and only by KEEP.
        x.put(DRAW, 0, 0);
        x.put(DRAW, 1, 0);
        x.push(VAR, 0);
        x.push(VAR, 1);
        x.push(PLUS, 0);
        x.push(CONST, 2);
        x.push(EQUAL, 0);
        x.push(VAR, 0);
        x.push(CONST, 3);
        x.push(EQUAL, 0);
        x.push(BOTH, 0);
        x.push(NOT, 0);
        x.put(KEEP, 0, 0);
        due("15: independent(0, 1) without 3 and 3", x.independent(0, 1), 0);
    }

    private static void independentOfLargeProducts() {
        ChancePrograms x = new ChancePrograms();
        // The products differ by a multiple of 2 to the 32nd, so int arithmetic would not tell.
        x.put(FLIP, 0, 8);
        putOnVariable(x, SET, 1, 0);
        due("15: independent(0, 1) of copies", x.independent(0, 1), 0);
        x.clear();
        x.put(FLIP, 0, 8);
        x.put(FLIP, 1, 8);
        putOnVariable(x, IF, 0, 0);
        x.put(FLIP, 1, 9);
        due("15: independent(0, 1) of a small leaning", x.independent(0, 1), 0);
        x.tune(3, 8);
        due("15: independent(0, 1) of no leaning", x.independent(0, 1), 1);
    }

    private static void visits() {
        ChancePrograms x = new ChancePrograms();
        x.put(DRAW, 0, 0);
        putOnVariable(x, IF, 0, 0);
        x.put(FLIP, 1, 4);
        x.put(ELSE, 0, 0);
        putOnValue(x, SET, 2, 1);
        x.put(END, 0, 0);
        x.put(LOOP, 0, 3);
        putOnEqual(x, KEEP, 0, 1, 0);
        x.put(BREAK, 0, 0);
        x.put(END, 0, 0);
        // All runs with variable 1 as 1 are dropped: a quarter of the three quarters of the IF.
        long kept = ALL / 16 * 13;
        long inIf = ALL / 16 * 9;
        long[] wants = {kept, kept, inIf, -2, kept - inIf, -2, kept, kept, kept, -2};
        for (int i = 0; i < wants.length; i++) {
            due("16: visits(" + i + ")", x.visits(i), wants[i]);
        }
        int[] noNumbers = {-1, 10, 11, 23, 24, 27, Integer.MIN_VALUE, Integer.MAX_VALUE};
        for (int i : noNumbers) {
            due("16: visits(" + i + ")", x.visits(i), -1);
        }
        putOnValue(x, KEEP, 0, 0);
        due("16: visits(0) with no run kept", x.visits(0), 0);
        due("16: visits(3) with no run kept", x.visits(3), -2);
        x.clear();
        x.put(LOOP, 0, 1);
        due("16: the END that is not there has no number", x.visits(1), -1);
    }

    private static void visitsOfLoops() {
        ChancePrograms x = new ChancePrograms();
        x.put(LOOP, 0, 3);
        x.put(LOOP, 0, 3);
        x.put(LOOP, 0, 3);
        putCount(x, 0);
        x.put(END, 0, 0);
        putCount(x, 1);
        x.put(END, 0, 0);
        putCount(x, 2);
        x.put(END, 0, 0);
        putCount(x, 2);
        long[] wants = {1, 3, 9, 27, -2, 9, -2, 3, -2, 1};
        for (int i = 0; i < wants.length; i++) {
            long want = wants[i] < 0 ? wants[i] : wants[i] * ALL;
            due("16: visits(" + i + ") of LOOPs", x.visits(i), want);
        }
        x.clear();
        x.put(LOOP, 0, 3);
        x.put(FLIP, 0, 12);
        putOnVariable(x, IF, 0, 0);
        x.put(BREAK, 0, 0);
        x.put(END, 0, 0);
        putCount(x, 1);
        due("16: visits(0) with BREAK", x.visits(0), ALL);
        due("16: visits(1) with BREAK", x.visits(1), ALL + ALL / 4 + ALL / 16);
        due("16: visits(3) with BREAK", x.visits(3), ALL / 4 * 3 + ALL / 16 * 3 + ALL / 64 * 3);
        due("16: visits(5) with BREAK", x.visits(5), ALL / 4 + ALL / 16 + ALL / 64);
    }

    private static void follow() {
        ChancePrograms x = new ChancePrograms();
        due("17: follow(0) of nothing", x.follow(0), 0);
        x.put(DRAW, 0, 0);
        x.put(DRAW, 1, 0);
        x.put(DRAW, 2, 0);
        due("17: follow(57)", x.follow(1 + 4 * 2 + 16 * 3), 1 + 4 * 2 + 16 * 3);
        due("17: follow(63)", x.follow(63), 63);
        due("17: follow(-1)", x.follow(-1), 63);
        due("17: outcomes that are not come to are not looked at", x.follow(64 * 77 + 6), 6);
        due("17: follow(MIN)", x.follow(Integer.MIN_VALUE), 0);
        due("17: follow(MAX)", x.follow(Integer.MAX_VALUE), 63);
        x.put(DRAW, 0, 0);
        x.put(DRAW, 1, 0);
        x.put(DRAW, 2, 0);
        due("17: the sixth outcome", x.follow(2 << 10 | 1 << 6), 1 + 16 * 2);
        due("17: follow(-1) of six", x.follow(-1), 63);
        x.clear();
        x.put(FLIP, 2, 5);
        due("17: FLIP 0", x.follow(0), 0);
        due("17: FLIP 1", x.follow(1), 16);
        due("17: FLIP 2", x.follow(2), -4);
        due("17: FLIP 3", x.follow(3), -4);
        due("17: FLIP, then what is not come to", x.follow(4 + 8 + 1), 16);
        x.tune(0, 0);
        due("17: FLIP with p 0, outcome 0", x.follow(0), 0);
        due("17: FLIP with p 0, outcome 1", x.follow(1), -4);
        due("17: FLIP with p 0, outcome 2", x.follow(2), -4);
        x.tune(0, 16);
        due("17: FLIP with p 16, outcome 0", x.follow(0), -4);
        due("17: FLIP with p 16, outcome 1", x.follow(1), 16);
        due("17: FLIP with p 16, outcome 3", x.follow(3), -4);
    }

    private static void followFirstCause() {
        ChancePrograms x = new ChancePrograms();
        x.put(DRAW, 0, 0);
        putOnVariable(x, KEEP, 0, 0);
        x.put(FLIP, 1, 16);
        due("17: KEEP before a wrong outcome", x.follow(0), -2);
        due("17: a wrong outcome behind KEEP", x.follow(1), -4);
        due("17: kept", x.follow(1 + 4), 1 + 4);
        for (int n = 0; n < 4; n++) {
            x.put(FLIP, 1, 8);
        }
        due("17: six steps", x.follow(1 + 4), 1);
        x.put(FLIP, 1, 8);
        putOnValue(x, KEEP, 0, 0);
        due("17: the seventh step before KEEP", x.follow(1 + 4), -3);
        due("17: KEEP before the seventh step", x.follow(0), -2);
        due("17: a wrong outcome before the seventh step", x.follow(1 + 4 + (2 << 10)), -4);
        due("17: a seventh outcome is not looked at", x.follow(1 + 4 + (3 << 12)), -3);
        due("17: all threes", x.follow(-1), -4);
        x.clear();
        for (int n = 0; n < 7; n++) {
            x.put(DRAW, 0, 0);
        }
        due("17: seven DRAWs", x.follow(-1), -3);
        due("17: seven DRAWs", x.follow(0), -3);
    }

    private static void dueLikely(ChancePrograms x, int greatest, int... outcomes) {
        int last = outcomes.length - 1;
        due("19: likely(" + last + ") as the first question", x.likely(last), last < 0 ? -2 : outcomes[last]);
        due("18: greatest()", x.greatest(), greatest);
        for (int j = 0; j < 9; j++) {
            due("19: likely(" + j + ")", x.likely(j), j < outcomes.length ? outcomes[j] : -2);
        }
        due("19: likely(-1)", x.likely(-1), -2);
        due("19: likely(MIN)", x.likely(Integer.MIN_VALUE), -2);
        due("19: likely(MAX)", x.likely(Integer.MAX_VALUE), -2);
    }

    private static void greatestAndLikely() {
        ChancePrograms x = new ChancePrograms();
        x.put(DRAW, 0, 0);
        due("18: greatest() as the first question", x.greatest(), ALL / 4);
        x.clear();
        dueLikely(x, ALL);
        x.put(FLIP, 0, 9);
        dueLikely(x, ALL / 16 * 9, 1);
        x.put(FLIP, 1, 7);
        dueLikely(x, ALL / 256 * 81, 1, 0);
        x.push(VAR, 0);
        x.push(VAR, 1);
        x.push(EQUAL, 0);
        x.put(KEEP, 0, 0);
        // 0 and 0 have the weight 7 * 9, and so have 1 and 1; the lesser comes first.
        dueLikely(x, ALL / 256 * 63, 0, 0);
        x.tune(1, 8);
        dueLikely(x, ALL / 256 * 72, 1, 1);
        x.put(DRAW, 2, 0);
        putOnEqual(x, KEEP, 0, 2, 3);
        dueLikely(x, ALL / 4096 * 72 * 4, 1, 1, 3);
        putOnValue(x, KEEP, 0, 0);
        dueLikely(x, 0);
        x.clear();
        for (int n = 0; n < 6; n++) {
            x.put(FLIP, 0, n % 2 == 0 ? 16 : 0);
        }
        dueLikely(x, ALL, 1, 0, 1, 0, 1, 0);
        x.put(FLIP, 0, 16);
        dueLikely(x, 0);
    }

    private static void likelyTies() {
        ChancePrograms x = new ChancePrograms();
        for (int n = 0; n < 6; n++) {
            x.put(DRAW, n % 3, 0);
        }
        dueLikely(x, 4096, 0, 0, 0, 0, 0, 0);
        putOnEqual(x, KEEP, 0, 0, 2);
        putOnVariable(x, KEEP, 0, 1);
        x.push(VAR, 2);
        x.push(VAR, 1);
        x.push(LESS, 0);
        x.push(NOT, 0);
        x.put(KEEP, 0, 0);
        dueLikely(x, 4096, 0, 0, 0, 2, 1, 1);
        putOnEqual(x, KEEP, 0, 2, 3);
        dueLikely(x, 4096, 0, 0, 0, 2, 1, 3);
        x.clear();
        // The first outcome decides before the second: 0, 3 comes before 1, 0.
        x.put(DRAW, 0, 0);
        x.put(DRAW, 1, 0);
        x.push(VAR, 0);
        x.push(VAR, 1);
        x.push(MINUS, 0);
        x.push(CONST, 1);
        x.push(EQUAL, 0);
        x.put(KEEP, 0, 0);
        dueLikely(x, ALL / 16, 0, 3);
    }

    private static void likelyOfLengths() {
        ChancePrograms x = new ChancePrograms();
        // Runs that draw 0 or 1 take another step, so that a later and shorter one is greatest.
        x.put(DRAW, 0, 0);
        x.push(VAR, 0);
        x.push(CONST, 2);
        x.push(LESS, 0);
        x.put(IF, 0, 0);
        x.put(FLIP, 1, 8);
        dueLikely(x, ALL / 4, 2);
        x.tune(2, 16);
        // A step of weight 16 costs nothing, so 0, 1 is as great as 2 alone, and before it.
        dueLikely(x, ALL / 4, 0, 1);
        putOnVariable(x, KEEP, 0, 0);
        dueLikely(x, ALL / 4, 1, 1);
    }

    private static void questionsChangeNothing() {
        ChancePrograms x = new ChancePrograms();
        x.put(DRAW, 0, 0);
        x.put(LOOP, 0, 2);
        x.put(FLIP, 1, 4);
        x.push(CONST, 3);
        for (int round = 0; round < 3; round++) {
            due("weight() again", x.weight(), ALL);
            due("weightOf() again", x.weightOf(0, 1), ALL / 4);
            due("joint() again", x.joint(0, 1, 1, 1), ALL / 16);
            due("expected() again", x.expected(1), ALL / 4);
            due("top() again", x.top(1, 1), 1);
            due("bottom() again", x.bottom(1, 1), 4);
            due("independent() again", x.independent(0, 1), 1);
            due("visits() again", x.visits(2), 2L * ALL);
            due("follow() again", x.follow(3 + 16), 3 + 4);
            due("follow() refused again", x.follow(8), -4);
            due("greatest() again", x.greatest(), ALL / 1024 * 144);
            due("likely() again", x.likely(1), 0);
            due("statements() again", x.statements(), 3);
        }
        due("the expression is still there", x.pop(), 0);
        due("the block is still open", x.put(END, 0, 0), 3);
    }
}
