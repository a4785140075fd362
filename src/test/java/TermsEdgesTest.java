/** The boundary cases of "Terms", a method for each sentence that names one; it is quoted above. */
public final class TermsEdgesTest extends Edges {
    public static void main(String[] args) {
        variablesBeginAtZero();
        stackOfSix();
        wrapAround();
        truths();
        listOf24();
        flip();
        draw();
        keep();
        ifs();
        elses();
        emptyParts();
        loop();
        loopBeginsAnew();
        breaks();
        breakBehindInnerLoop();
        ends();
        threeBlocks();
        openAtTheEnd();
        openAtTheEndOf24();
        openAtTheEndWithBreak();
        noneOfWeightZero();
        seventhStep();
        seventhStepForSome();
        seventhStepIsDroppedThere();
        sixteenForEachStepFewer();
        orderAtEachPlace();
        orderOfUnlikeLengths();
        questionsChangeNothing();
        finish();
    }

    /** "There are three VARIABLES, 0 to 2, with values 0 to 3; all are 0 when a run begins." */
    private static void variablesBeginAtZero() {
        ChancePrograms x = new ChancePrograms();
        for (int v = 0; v < 3; v++) {
            putOnVariable(x, IF, 0, v);
            putOnValue(x, KEEP, 0, 0);
            end(x, 1);
        }
        for (int v = 0; v < 3; v++) {
            x.put(DRAW, v, 0);
        }
        due("0 at the beginning: weight()", x.weight(), ALL);
        due("0 at the beginning: greatest()", x.greatest(), ALL / 64);
        for (int outcomes = 63; outcomes >= 0; outcomes--) {
            due("0 at the beginning: follow(" + outcomes + ")", x.follow(outcomes), outcomes);
        }
    }

    /** "a stack of at most 6" */
    private static void stackOfSix() {
        ChancePrograms x = new ChancePrograms();
        for (int n = 1; n <= 6; n++) {
            due("expression " + n, x.push(CONST, n % 4), n);
        }
        due("a seventh expression", x.push(CONST, 0), -3);
        due("NOT in place of the sixth", x.push(NOT, 0), 6);
        due("PLUS in place of two", x.push(PLUS, 0), 5);
        due("a sixth expression again", x.push(VAR, 0), 6);
        due("a seventh expression again", x.push(VAR, 0), -3);
        due("SET takes the sixth", x.put(SET, 0, 0), 0);
        due("a sixth expression once more", x.push(CONST, 0), 6);
        due("a seventh expression once more", x.push(CONST, 0), -3);
        refused("a CONST on six", Edges::sixExpressions, y -> y.push(CONST, 1), -3);
        refused("a VAR on six", Edges::sixExpressions, y -> y.push(VAR, 1), -3);
    }

    private static int rest(int number) {
        return number % 4;
    }

    private static int minus(int x, int y) {
        int found = -1;
        for (int number = 0; number < 4; number++) {
            if (rest(number + y) == x) {
                found = number;
            }
        }
        return found;
    }

    /** An expression of the values of variables 0 and 1, as one of constants and as one of drawn values. */
    private static void dueValue(int kind, int x, int y, int want) {
        ChancePrograms c = new ChancePrograms();
        c.push(CONST, x);
        c.push(CONST, y);
        c.push(kind, 0);
        c.put(SET, 2, 0);
        due("kind " + kind + " of " + x + " and " + y, c.follow(0), 16 * want);
        c.clear();
        c.put(DRAW, 0, 0);
        c.put(DRAW, 1, 0);
        c.push(VAR, 0);
        c.push(VAR, 1);
        c.push(kind, 0);
        c.put(SET, 2, 0);
        due("kind " + kind + " of drawn " + x + " and " + y, c.follow(x + 4 * y), x + 4 * y + 16 * want);
        due("kind " + kind + " counted for " + x + " and " + y, c.joint(0, x, 2, want) >= ALL / 16 ? 1 : 0, 1);
    }

    /**
     * PLUS and TIMES, "the rest ... on division by 4", and MINUS, "the number from 0 to 3 that
     * gives x when y is added by PLUS"
     */
    private static void wrapAround() {
        for (int x = 0; x < 4; x++) {
            for (int y = 0; y < 4; y++) {
                dueValue(PLUS, x, y, rest(x + y));
                dueValue(TIMES, x, y, rest(x * y));
                dueValue(MINUS, x, y, minus(x, y));
            }
        }
        dueValue(PLUS, 1, 2, 3);
        dueValue(PLUS, 1, 3, 0);
        dueValue(PLUS, 3, 3, 2);
        dueValue(TIMES, 1, 3, 3);
        dueValue(TIMES, 2, 2, 0);
        dueValue(TIMES, 3, 3, 1);
        dueValue(MINUS, 3, 3, 0);
        dueValue(MINUS, 0, 1, 3);
        dueValue(MINUS, 0, 3, 1);
        dueValue(MINUS, 2, 3, 3);
    }

    /** EQUAL, LESS, NOT, BOTH and CHOICE: "1 if ..., else 0" and "x if it is not 0, else y" */
    private static void truths() {
        for (int x = 0; x < 4; x++) {
            for (int y = 0; y < 4; y++) {
                if (x != y) {
                    dueValue(EQUAL, x, y, 0);
                    dueValue(LESS, x, y, x - y < 0 ? 1 : 0);
                }
                // Two expressions stand there, and NOT takes the top alone.
                ChancePrograms c = new ChancePrograms();
                c.push(CONST, x);
                c.push(CONST, y);
                due("NOT on two", c.push(NOT, 0), 2);
                c.put(SET, 0, 0);
                due("NOT of " + y, c.follow(0), y == 0 ? 1 : 0);
                c.put(SET, 0, 0);
                due("what stands below NOT", c.follow(0), x);
            }
            dueValue(EQUAL, x, x, 1);
            dueValue(LESS, x, x, 0);
            dueValue(BOTH, x, 0, 0);
            dueValue(BOTH, 0, x, 0);
            dueValue(CHOICE, 0, x, x);
            dueValue(CHOICE, x, 0, x);
        }
        for (int x = 1; x < 4; x++) {
            for (int y = 1; y < 4; y++) {
                dueValue(BOTH, x, y, 1);
                dueValue(CHOICE, x, y, x);
            }
        }
    }

    /** "a list of at most 24 STATEMENTS, numbered from 0" */
    private static void listOf24() {
        ChancePrograms x = new ChancePrograms();
        for (int n = 0; n < 24; n++) {
            x.push(CONST, n % 4);
            due("statement " + n, x.put(SET, n % 3, 0), n);
        }
        due("24 statements", x.statements(), 24);
        // The last SETs of the variables 0, 1 and 2 are the statements 21, 22 and 23.
        due("all 24 are carried out", x.follow(0), 1 + 4 * 2 + 16 * 3);
        due("the last one is come to", x.visits(23), ALL);
        due("there is no number 24", x.visits(24), -1);
        refused("a 25th statement", y -> richOf(y, 24), y -> y.put(DRAW, 0, 0), -2);
        alike("a 24th statement in place of another", y -> {
            richOf(y, 24);
            y.drop();
            putCount(y, 2);
        }, y -> richOf(y, 24));
    }

    /** "with the outcome 1, of weight p, ...; with the outcome 0, of weight 16 - p": p from 0 to 16 */
    private static void flip() {
        for (int p = 0; p <= 16; p++) {
            for (int v = 0; v < 3; v++) {
                ChancePrograms x = new ChancePrograms();
                putOnValue(x, SET, v, 3);
                x.put(FLIP, v, p);
                String flip = "FLIP " + v + " with " + p + ": ";
                due(flip + "weightOf 1", x.weightOf(v, 1), ALL / 16 * p);
                due(flip + "weightOf 0", x.weightOf(v, 0), ALL / 16 * (16 - p));
                due(flip + "weightOf 2", x.weightOf(v, 2), 0);
                due(flip + "weightOf 3", x.weightOf(v, 3), 0);
                due(flip + "weight()", x.weight(), ALL);
            }
        }
    }

    /** "with each of the outcomes 0, 1, 2 and 3, of weight 4 each, variable a becomes the outcome" */
    private static void draw() {
        for (int v = 0; v < 3; v++) {
            ChancePrograms x = new ChancePrograms();
            putOnValue(x, SET, v, 2);
            x.put(DRAW, v, 0);
            for (int k = 0; k < 4; k++) {
                due("DRAW " + v + ": weightOf " + k, x.weightOf(v, k), ALL / 4);
                due("DRAW " + v + ": follow(" + k + ")", x.follow(k), k << (2 * v));
            }
            due("DRAW " + v + ": the others stay", x.weightOf((v + 1) % 3, 0), ALL);
        }
    }

    /** "the run is DROPPED if x is 0, else nothing" */
    private static void keep() {
        for (int value = 0; value < 4; value++) {
            ChancePrograms x = new ChancePrograms();
            putOnValue(x, SET, 1, 2);
            putOnValue(x, KEEP, 0, value);
            putCount(x, 0);
            due("KEEP of " + value + ": weight()", x.weight(), value == 0 ? 0 : ALL);
            due("KEEP of " + value + ": follow(0)", x.follow(0), value == 0 ? -2 : 1 + 4 * 2);
        }
        ChancePrograms x = new ChancePrograms();
        due("without KEEP nothing is dropped", x.weight(), ALL);
        putOnValue(x, IF, 0, 0);
        putOnValue(x, KEEP, 0, 0);
        due("a KEEP that is left out", x.weight(), ALL);
    }

    /** "begins a block: it is carried out if x is not 0, else left out" */
    private static void ifs() {
        for (int value = 0; value < 4; value++) {
            ChancePrograms x = new ChancePrograms();
            putOnValue(x, IF, 0, value);
            putCount(x, 0);
            end(x, 1);
            putCount(x, 1);
            due("IF of " + value, x.follow(0), (value == 0 ? 0 : 1) + 4);
            due("IF of " + value + ": visits(1)", x.visits(1), value == 0 ? 0 : ALL);
        }
    }

    /**
     * "what stands behind it in the block is carried out if x was 0, and left out if what stands
     * before it was carried out"
     */
    private static void elses() {
        for (int value = 0; value < 4; value++) {
            ChancePrograms x = new ChancePrograms();
            putOnValue(x, SET, 2, value);
            putOnVariable(x, IF, 0, 2);
            putCount(x, 0);
            // From here on the value asked by IF is the other way round, and yet nothing changes.
            putOnValue(x, SET, 2, 0);
            x.put(ELSE, 0, 0);
            putCount(x, 1);
            putOnValue(x, SET, 2, 1);
            end(x, 1);
            due("ELSE of " + value, x.follow(0), value == 0 ? 4 + 16 : 1);
        }
    }

    /** An IF, an ELSE and a LOOP with nothing in them. */
    private static void emptyParts() {
        for (int value = 0; value < 2; value++) {
            ChancePrograms x = new ChancePrograms();
            putOnValue(x, IF, 0, value);
            end(x, 1);
            putCount(x, 0);
            due("an empty IF of " + value, x.follow(0), 1);
            putOnValue(x, IF, 0, value);
            x.put(ELSE, 0, 0);
            end(x, 1);
            putCount(x, 0);
            due("an empty IF and ELSE of " + value, x.follow(0), 2);
            putOnValue(x, IF, 0, value);
            x.put(ELSE, 0, 0);
            putCount(x, 1);
            end(x, 1);
            due("an empty IF, and ELSE of " + value, x.follow(0), 2 + (value == 0 ? 4 : 0));
            putOnValue(x, IF, 0, value);
            putCount(x, 2);
            x.put(ELSE, 0, 0);
            end(x, 1);
            due("an IF, and empty ELSE of " + value, x.follow(0), 2 + (value == 0 ? 4 : 16));
        }
        ChancePrograms x = new ChancePrograms();
        open(x, "LLL");
        end(x, 3);
        putCount(x, 0);
        due("empty LOOPs", x.follow(0), 1);
        due("empty LOOPs: visits(2)", x.visits(2), 4L * ALL);
    }

    /** "begins a block that is carried out p times, one after the other": p from 1 to 3 */
    private static void loop() {
        for (int p = 1; p <= 3; p++) {
            ChancePrograms x = new ChancePrograms();
            x.put(LOOP, 0, p);
            putCount(x, 0);
            // One after the other: variable 1 gets the count of each round added.
            x.push(VAR, 1);
            x.push(VAR, 0);
            x.push(PLUS, 0);
            x.put(SET, 1, 0);
            end(x, 1);
            putCount(x, 2);
            int[] sums = {0, 1, 1 + 2, 1 + 2 + 3};
            due("LOOP " + p, x.follow(0), p + 4 * rest(sums[p]) + 16);
            due("LOOP " + p + ": visits(1)", x.visits(1), (long) p * ALL);
        }
    }

    /** A LOOP in a LOOP has all its rounds each time, also when a BREAK cut it short before. */
    private static void loopBeginsAnew() {
        ChancePrograms x = new ChancePrograms();
        x.put(LOOP, 0, 3);
        putCount(x, 0);
        x.put(LOOP, 0, 3);
        putCount(x, 1);
        putOnEqual(x, IF, 0, 0, 1);
        x.put(BREAK, 0, 0);
        end(x, 3);
        // One round, then three, then three.
        due("a LOOP after a BREAK: follow(0)", x.follow(0), 3 + 4 * rest(7));
        due("a LOOP after a BREAK: visits(3)", x.visits(3), 7L * ALL);
        due("a LOOP after a BREAK: visits(5)", x.visits(5), ALL);
    }

    /** "the run goes on behind the innermost such block" */
    private static void breaks() {
        String[] within = {"", "I", "E", "II", "IE", "EE"};
        for (String blocks : within) {
            ChancePrograms x = new ChancePrograms();
            x.put(LOOP, 0, 3);
            putCount(x, 0);
            open(x, blocks);
            x.put(BREAK, 0, 0);
            putCount(x, 1);
            end(x, blocks.length());
            putCount(x, 1);
            end(x, 1);
            putCount(x, 2);
            due("BREAK in L" + blocks, x.follow(0), 1 + 16);
        }
        ChancePrograms x = new ChancePrograms();
        open(x, "LIL");
        putCount(x, 0);
        x.put(BREAK, 0, 0);
        end(x, 1);
        putCount(x, 1);
        end(x, 2);
        putCount(x, 2);
        due("BREAK in LIL", x.follow(0), 2 + 4 * 2 + 16);
    }

    /** The LOOP behind whose block a run goes on is one that is open there. */
    private static void breakBehindInnerLoop() {
        ChancePrograms x = new ChancePrograms();
        open(x, "LL");
        putCount(x, 0);
        end(x, 1);
        open(x, "I");
        x.put(BREAK, 0, 0);
        end(x, 1);
        putCount(x, 1);
        end(x, 1);
        putCount(x, 2);
        due("BREAK behind an inner LOOP", x.follow(0), 2 + 16);
        refused("BREAK behind all LOOPs", y -> {
            rich(y);
            end(y, 1);
        }, y -> y.put(BREAK, 0, 0), -4);
    }

    /** "ends the innermost block" */
    private static void ends() {
        ChancePrograms x = new ChancePrograms();
        open(x, "LI");
        end(x, 1);
        putCount(x, 0);
        due("END of the IF in the LOOP", x.follow(0), 2);
        end(x, 1);
        putCount(x, 1);
        due("END of the LOOP", x.follow(0), 2 + 4);
        x.clear();
        open(x, "IL");
        end(x, 1);
        putCount(x, 0);
        due("END of the LOOP in the IF", x.follow(0), 1);
        due("the IF has no ELSE yet", x.put(ELSE, 0, 0), 4);
        end(x, 1);
        due("no block is left", x.put(END, 0, 0), -4);
    }

    /** "At most three blocks may be open at a place." */
    private static void threeBlocks() {
        String[] threes = {"LLL", "LLI", "LIL", "LII", "ILL", "ILI", "IIL", "III", "EEE", "LEI", "IEL"};
        for (String three : threes) {
            ChancePrograms x = new ChancePrograms();
            open(x, three.substring(0, 2));
            int before = x.statements();
            open(x, three.substring(2));
            due(three + ": the third is taken", x.statements() > before ? 1 : 0, 1);
            Build build = y -> {
                open(y, three);
                y.push(CONST, 1);
            };
            refused(three + ": a fourth LOOP", build, y -> y.put(LOOP, 0, 2), -4);
            refused(three + ": a fourth IF", build, y -> y.put(IF, 0, 0), -4);
            x.push(CONST, 1);
            x.push(CONST, 1);
            end(x, 1);
            int number = x.statements();
            due(three + ": a third IF behind an END", x.put(IF, 0, 0), number);
            due(three + ": and no fourth", x.put(IF, 0, 0), -4);
            end(x, 1);
            due(three + ": a third LOOP behind an END", x.put(LOOP, 0, 1), number + 2);
            due(three + ": and no fourth LOOP", x.put(LOOP, 0, 1), -4);
        }
        ChancePrograms x = new ChancePrograms();
        for (int n = 0; n < 24; n += 6) {
            open(x, "LLL");
            end(x, 3);
        }
        due("twelve blocks, but three at a place", x.statements(), 24);
    }

    /** How often a statement within these blocks is come to: twice for each LOOP. */
    private static int rounds(String blocks) {
        int rounds = 1;
        for (char block : blocks.toCharArray()) {
            rounds *= block == 'L' ? 2 : 1;
        }
        return rounds;
    }

    /** "Blocks that are open at the end of the program end there (and LOOPs among them are repeated from there)." */
    private static void openAtTheEnd() {
        String[] all = {"", "L", "I", "E", "LL", "LI", "IL", "EL", "LE", "LLL", "LLI", "LIL", "ILL", "LIE", "EIL", "III"};
        for (String blocks : all) {
            for (int ended = 0; ended <= blocks.length(); ended++) {
                ChancePrograms x = new ChancePrograms();
                open(x, blocks);
                putCount(x, 0);
                end(x, ended);
                putCount(x, 1);
                int outer = rounds(blocks.substring(0, blocks.length() - ended));
                String what = blocks + " with " + ended + " ended";
                due(what + ": follow(0)", x.follow(0), rest(rounds(blocks)) + 4 * rest(outer));
                due(what + ": the last is come to", x.visits(x.statements() - 1), (long) outer * ALL);
                due(what + ": weight()", x.weight(), ALL);
            }
            alike(blocks + " ended or not", x -> {
                open(x, blocks);
                x.put(FLIP, 0, 5);
                putCount(x, 1);
                x.weight();
                end(x, blocks.length());
                x.weight();
                for (int n = 0; n < blocks.length(); n++) {
                    x.drop();
                }
            }, x -> {
                open(x, blocks);
                x.put(FLIP, 0, 5);
                putCount(x, 1);
            });
        }
    }

    /** The same where the program has no room for an END. */
    private static void openAtTheEndOf24() {
        ChancePrograms x = new ChancePrograms();
        for (int n = 0; n < 20; n++) {
            putOnValue(x, SET, 2, 3);
        }
        x.put(LOOP, 0, 3);
        x.put(LOOP, 0, 3);
        x.put(LOOP, 0, 3);
        putCount(x, 0);
        due("24 statements, three LOOPs open", x.statements(), 24);
        due("27 rounds: follow(0)", x.follow(0), rest(27) + 16 * 3);
        due("27 rounds: visits(23)", x.visits(23), 27L * ALL);
        due("27 rounds: visits(22)", x.visits(22), 9L * ALL);
        due("27 rounds: visits(20)", x.visits(20), ALL);
        due("27 rounds: visits(24)", x.visits(24), -1);
        due("27 rounds: put END", x.put(END, 0, 0), -2);
        x.drop();
        x.drop();
        putOnValue(x, IF, 0, 0);
        putCount(x, 0);
        due("an IF open at the end", x.follow(0), 16 * 3);
        due("an IF open at the end: visits(22)", x.visits(22), 9L * ALL);
        due("an IF open at the end: visits(23)", x.visits(23), 0);
    }

    /** A BREAK in a LOOP that is open at the end goes on there, within the LOOPs around it. */
    private static void openAtTheEndWithBreak() {
        ChancePrograms x = new ChancePrograms();
        x.put(LOOP, 0, 3);
        putCount(x, 0);
        x.put(BREAK, 0, 0);
        due("BREAK as the last statement", x.follow(0), 1);
        x.clear();
        x.put(LOOP, 0, 3);
        putCount(x, 0);
        x.put(LOOP, 0, 2);
        putCount(x, 1);
        x.put(BREAK, 0, 0);
        due("BREAK as the last statement of two LOOPs", x.follow(0), 3 + 4 * 3);
        open(x, "I");
        putCount(x, 2);
        due("and with an IF open behind it", x.follow(0), 3 + 4 * 3);
    }

    /** "A RUN is told by the outcomes of its random steps, one after the other, none of weight 0." */
    private static void noneOfWeightZero() {
        for (int never = 0; never < 2; never++) {
            int p = never == 0 ? 16 : 0;
            ChancePrograms x = new ChancePrograms();
            x.put(FLIP, 0, p);
            due("p " + p + ": the only run", x.greatest(), ALL);
            due("p " + p + ": its outcome", x.likely(0), 1 - never);
            due("p " + p + ": the other is no run", x.follow(never), -4);
            putOnEqual(x, KEEP, 0, 0, never);
            due("p " + p + ": weight() of the other", x.weight(), 0);
            due("p " + p + ": greatest() of the other", x.greatest(), 0);
            due("p " + p + ": likely(0) of the other", x.likely(0), -2);
            due("p " + p + ": visits(0) of the other", x.visits(0), 0);
            due("p " + p + ": top of the other", x.top(0, never), -2);
            x.tune(0, never == 0 ? 15 : 1);
            due("weight() when it may be", x.weight(), ALL / 16);
            due("likely(0) when it may be", x.likely(0), never);
        }
    }

    /** "A run that comes to a seventh random step is dropped there." */
    private static void seventhStep() {
        int[] ps = {0, 1, 15, 16};
        for (int kind = FLIP; kind <= DRAW; kind++) {
            for (int p : ps) {
                ChancePrograms x = new ChancePrograms();
                for (int n = 0; n < 6; n++) {
                    x.put(kind, n % 3, p);
                    due("kind " + kind + " with " + p + ", steps: " + (n + 1), x.weight(), ALL);
                }
                x.put(FLIP, 0, p);
                due("a seventh FLIP with " + p, x.weight(), 0);
                due("a seventh FLIP with " + p + ": greatest()", x.greatest(), 0);
                x.drop();
                x.put(DRAW, 0, 0);
                due("a seventh DRAW", x.weight(), 0);
                due("a seventh DRAW: expected()", x.expected(0), 0);
            }
        }
        ChancePrograms x = new ChancePrograms();
        open(x, "L");
        x.put(LOOP, 0, 3);
        x.put(FLIP, 0, 8);
        due("six steps by LOOPs", x.weight(), ALL);
        end(x, 2);
        due("six steps by LOOPs that ended", x.weight(), ALL);
        x.put(FLIP, 0, 8);
        due("a seventh step behind LOOPs", x.weight(), 0);
    }

    /** Only those runs are dropped that come to it. */
    private static void seventhStepForSome() {
        ChancePrograms x = new ChancePrograms();
        for (int n = 0; n < 6; n++) {
            x.put(FLIP, n % 2, 4);
        }
        putOnVariable(x, IF, 0, 1);
        x.put(FLIP, 2, 16);
        end(x, 1);
        due("runs without a seventh step", x.weight(), ALL / 16 * 12);
        due("runs with a seventh step: weightOf(1, 1)", x.weightOf(1, 1), 0);
        due("runs with a seventh step: visits(7)", x.visits(7), 0);
        due("runs without a seventh step: visits(6)", x.visits(6), ALL / 16 * 12);
        due("a run without", x.follow(1 << 8), 1);
        due("a run with", x.follow(1 << 10), -3);
    }

    /** "there": what stands before it has been carried out, what stands behind it has not. */
    private static void seventhStepIsDroppedThere() {
        for (int before = 0; before < 2; before++) {
            ChancePrograms x = new ChancePrograms();
            for (int n = 0; n < 6; n++) {
                x.put(DRAW, 0, 0);
            }
            putOnValue(x, KEEP, 0, before);
            x.put(DRAW, 0, 0);
            putOnValue(x, KEEP, 0, 0);
            due("KEEP of " + before + " before the seventh step", x.follow(0), before == 0 ? -2 : -3);
        }
        ChancePrograms x = new ChancePrograms();
        x.put(LOOP, 0, 3);
        for (int n = 0; n < 3; n++) {
            x.put(DRAW, 0, 0);
        }
        putCount(x, 1);
        putOnEqual(x, IF, 0, 1, 2);
        x.put(BREAK, 0, 0);
        due("a BREAK before the seventh step", x.weight(), ALL);
        due("a BREAK before the seventh step: follow(-1)", x.follow(-1), 3 + 4 * 2);
    }

    /** "times 16 for each random step fewer than six that it has" */
    private static void sixteenForEachStepFewer() {
        int[] flips = {16777216, 3145728, 589824, 110592, 20736, 3888, 729};
        int[] draws = {16777216, 4194304, 1048576, 262144, 65536, 16384, 4096};
        ChancePrograms x = new ChancePrograms();
        ChancePrograms y = new ChancePrograms();
        for (int steps = 0; steps <= 6; steps++) {
            due("FLIPs with 3: " + steps, x.greatest(), flips[steps]);
            due("FLIPs with 3, kept: " + steps, x.weight(), flips[steps]);
            due("DRAWs: " + steps, y.greatest(), draws[steps]);
            x.put(FLIP, 0, 3);
            putOnVariable(x, KEEP, 0, 0);
            y.put(DRAW, 0, 0);
        }
        x.clear();
        for (int n = 0; n < 6; n++) {
            x.put(FLIP, 0, n % 2 == 0 ? 1 : 15);
            putOnEqual(x, KEEP, 0, 0, n % 2 == 0 ? 1 : 0);
        }
        due("the least weight of all: weight()", x.weight(), 1);
        due("the least weight of all: greatest()", x.greatest(), 1);
        due("the least weight of all: bottom(0, 0)", x.bottom(0, 0), 1);
    }

    /** "that one comes first which has the lesser outcome at the first place where they differ" */
    private static void orderAtEachPlace() {
        for (int at = 0; at < 6; at++) {
            ChancePrograms x = new ChancePrograms();
            for (int n = 0; n < 6; n++) {
                x.put(DRAW, n == at ? 1 : 0, 0);
            }
            putOnVariable(x, KEEP, 0, 1);
            for (int j = 0; j < 6; j++) {
                due("not 0 at " + at + ": likely(" + j + ")", x.likely(j), j == at ? 1 : 0);
            }
        }
        for (int at = 0; at < 5; at++) {
            ChancePrograms x = new ChancePrograms();
            for (int n = 0; n < 6; n++) {
                x.put(DRAW, n == at ? 1 : n == at + 1 ? 2 : 0, 0);
            }
            // 0 and 3, 1 and 2, 2 and 1, 3 and 0: the lesser first outcome goes before.
            x.push(VAR, 1);
            x.push(VAR, 2);
            x.push(PLUS, 0);
            x.put(IF, 0, 0);
            x.push(VAR, 1);
            x.push(VAR, 2);
            x.push(PLUS, 0);
            x.push(CONST, 3);
            x.push(EQUAL, 0);
            x.put(KEEP, 0, 0);
            x.put(ELSE, 0, 0);
            putOnValue(x, KEEP, 0, 0);
            for (int j = 0; j < 6; j++) {
                due("0 and 3 from " + at + " on: likely(" + j + ")", x.likely(j), j == at + 1 ? 3 : 0);
            }
        }
    }

    /** The same among runs of unlike length; a step of weight 16 makes them alike in weight. */
    private static void orderOfUnlikeLengths() {
        ChancePrograms x = new ChancePrograms();
        x.put(FLIP, 0, 8);
        putOnVariable(x, IF, 0, 0);
        x.put(FLIP, 1, 16);
        due("0 before 1, 1", x.likely(0), 0);
        due("0 before 1, 1: it has one step", x.likely(1), -2);
        x.clear();
        x.put(FLIP, 0, 8);
        x.push(VAR, 0);
        x.push(NOT, 0);
        x.put(IF, 0, 0);
        x.put(FLIP, 1, 16);
        due("0, 1 before 1", x.likely(0), 0);
        due("0, 1 before 1: its second step", x.likely(1), 1);
        due("0, 1 before 1: it has two steps", x.likely(2), -2);
    }

    private static Call[] questions() {
        return new Call[] {
            ChancePrograms::statements, ChancePrograms::weight, x -> x.weightOf(0, 1), x -> x.joint(0, 1, 1, 0),
            x -> x.expected(2), x -> x.top(0, 1), x -> x.bottom(0, 1), x -> x.independent(0, 2),
            x -> x.visits(5), x -> x.follow(1), x -> x.follow(-1), ChancePrograms::greatest, x -> x.likely(1)};
    }

    /** "The calls below change nothing." */
    private static void questionsChangeNothing() {
        Build[] builds = {NOTHING, Edges::rich, Edges::noneKept, Edges::sixExpressions, x -> richOf(x, 24)};
        for (Build build : builds) {
            for (Call question : questions()) {
                alike("a question changes nothing", x -> {
                    build.on(x);
                    question.on(x);
                }, build);
            }
        }
    }
}
