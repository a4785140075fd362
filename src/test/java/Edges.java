import java.util.ArrayList;
import java.util.List;

/** What the tests of boundary cases share: refused calls, and whether they left a trace. */
abstract class Edges extends Checks {
    /** Makes a new object ready for the call that is looked at. */
    interface Build {
        void on(ChancePrograms x);
    }

    interface Call {
        long on(ChancePrograms x);
    }

    private interface Probe {
        void ask(ChancePrograms x, List<Long> answers);
    }

    static final Build NOTHING = x -> { };

    /** Numbers that are out of every range of the document, on both sides. */
    static final int[] FAR_OUT = {Integer.MIN_VALUE, Integer.MIN_VALUE + 1, -256, 256, 65536, Integer.MAX_VALUE};

    /** Each probe gets objects of its own, for together they would need more than 512 calls. */
    private static final List<Probe> PROBES =
            List.of(Edges::askAll, Edges::useExpressions, Edges::tryBlocks, Edges::goOn);

    /** Outcomes with every value at every place, small ones and ones with high bits. */
    private static final int[] OUTCOMES = {
        0, 1, 2, 3, 4, 8, 12, 5, 21, 85, 341, 1365, 27, 57, 63, 64, 1024, 2048, 4095, 4096, -1, -4,
        Integer.MIN_VALUE, Integer.MAX_VALUE};

    /** The call answers what is due, once and again, and later calls answer as if it had not been made. */
    static void refused(String what, Build build, Call call, long want) {
        ChancePrograms x = new ChancePrograms();
        build.on(x);
        due(what, call.on(x), want);
        due(what + " again", call.on(x), want);
        Build withCall = y -> {
            build.on(y);
            call.on(y);
        };
        alike("after " + what, withCall, build);
    }

    /** All later calls answer the same on the one as on the other. */
    static void alike(String what, Build one, Build other) {
        for (int probe = 0; probe < PROBES.size(); probe++) {
            List<Long> got = answers(probe, one);
            List<Long> want = answers(probe, other);
            due(what + ", probe " + probe + ": answers", got.size(), want.size());
            for (int n = 0; n < got.size() && n < want.size(); n++) {
                due(what + ", probe " + probe + ", answer " + n, got.get(n), want.get(n));
            }
        }
    }

    private static List<Long> answers(int probe, Build build) {
        ChancePrograms x = new ChancePrograms();
        build.on(x);
        List<Long> answers = new ArrayList<>();
        PROBES.get(probe).ask(x, answers);
        return answers;
    }

    private static void askAll(ChancePrograms x, List<Long> answers) {
        answers.add((long) x.statements());
        answers.add((long) x.weight());
        answers.add((long) x.greatest());
        for (int v = 0; v < 3; v++) {
            answers.add((long) x.expected(v));
            for (int k = 0; k < 4; k++) {
                answers.add((long) x.weightOf(v, k));
                answers.add((long) x.top(v, k));
                answers.add((long) x.bottom(v, k));
                answers.add((long) x.joint(v, k, (v + 1) % 3, 1));
            }
            for (int w = 0; w < 3; w++) {
                answers.add((long) x.independent(v, w));
            }
        }
        for (int i = 0; i <= 24; i++) {
            answers.add(x.visits(i));
        }
        for (int outcomes : OUTCOMES) {
            answers.add((long) x.follow(outcomes));
        }
        for (int j = 0; j <= 6; j++) {
            answers.add((long) x.likely(j));
        }
    }

    /** Takes the program away, and then uses each expression of the stack on drawn values. */
    private static void useExpressions(ChancePrograms x, List<Long> answers) {
        for (int n = x.statements(); n >= 0; n--) {
            answers.add((long) x.drop());
        }
        for (int v = 0; v < 3; v++) {
            x.put(DRAW, v, 0);
        }
        for (int n = 0; n < 7; n++) {
            int number = x.put(SET, 0, 0);
            answers.add((long) number);
            for (int outcomes = 0; outcomes < 64; outcomes += 3) {
                answers.add((long) x.follow(outcomes));
            }
            if (number >= 0) {
                x.drop();
            }
        }
    }

    /** Goes back statement by statement, and tries at each place what the open blocks allow. */
    private static void tryBlocks(ChancePrograms x, List<Long> answers) {
        for (int n = x.statements(); n >= 0; n--) {
            for (int kind = ELSE; kind <= END; kind++) {
                int number = x.put(kind, 0, 2);
                answers.add((long) number);
                if (number >= 0) {
                    answers.add((long) x.follow(1365));
                    x.drop();
                }
            }
            answers.add((long) x.drop());
        }
    }

    /** Goes on with the program and the stack as they are, and looks at every p. */
    private static void goOn(ChancePrograms x, List<Long> answers) {
        for (int i = 0; i <= 24; i++) {
            answers.add((long) x.tune(i, 7));
        }
        answers.add((long) x.push(NOT, 0));
        answers.add((long) x.push(VAR, 1));
        answers.add((long) x.push(PLUS, 0));
        answers.add((long) x.put(SET, 2, 0));
        for (int n = 0; n < 4; n++) {
            answers.add((long) x.put(ELSE, 0, 0));
            answers.add((long) x.put(BREAK, 0, 0));
            answers.add((long) x.put(END, 0, 0));
            answers.add((long) x.weightOf(2, 1));
        }
        answers.add((long) x.put(LOOP, 0, 2));
        answers.add((long) x.put(FLIP, 1, 3));
        for (int i = 0; i <= 24; i++) {
            answers.add(x.visits(i));
        }
        for (int n = 0; n < 7; n++) {
            answers.add((long) x.pop());
        }
        answers.add((long) x.statements());
    }

    /** Every kind of statement, with the LOOP open at the end, and two expressions on the stack. */
    static void rich(ChancePrograms x) {
        x.put(DRAW, 0, 0);
        x.put(FLIP, 1, 5);
        keepSum(x);
        x.put(LOOP, 0, 2);
        x.put(FLIP, 2, 9);
        putOnVariable(x, IF, 0, 2);
        x.put(BREAK, 0, 0);
        x.put(ELSE, 0, 0);
        putCount(x, 0);
        x.put(END, 0, 0);
        x.push(VAR, 1);
        x.push(CONST, 2);
    }

    /** Puts a KEEP on the sum of the variables 0 and 1. */
    static void keepSum(ChancePrograms x) {
        x.push(VAR, 0);
        x.push(VAR, 1);
        x.push(PLUS, 0);
        x.put(KEEP, 0, 0);
    }

    /** The first statements of the rich program, or more that count, up to the given length. */
    static void richOf(ChancePrograms x, int length) {
        rich(x);
        for (int n = 10; n < length; n++) {
            putCount(x, 2);
        }
        for (int n = 10; n > length; n--) {
            x.drop();
        }
    }

    /** No expression, no open block, and 24 statements. */
    static void bareOf24(ChancePrograms x) {
        x.put(FLIP, 0, 3);
        x.put(FLIP, 1, 5);
        x.put(DRAW, 2, 0);
        x.put(FLIP, 1, 7);
        for (int n = 0; n < 10; n++) {
            x.put(LOOP, 0, 1 + n % 3);
            x.put(END, 0, 0);
        }
    }

    /** Six expressions, each unlike the others; the topmost is 3. */
    static void sixExpressions(ChancePrograms x) {
        x.push(VAR, 0);
        x.push(CONST, 0);
        x.push(VAR, 1);
        x.push(CONST, 2);
        x.push(VAR, 2);
        x.push(CONST, 3);
    }

    /** Opens a block for each letter: L is a LOOP of 2, I an IF, E an IF with its ELSE. */
    static void open(ChancePrograms x, String blocks) {
        for (char block : blocks.toCharArray()) {
            if (block == 'L') {
                x.put(LOOP, 0, 2);
            } else {
                putOnValue(x, IF, 0, block == 'I' ? 1 : 0);
            }
            if (block == 'E') {
                x.put(ELSE, 0, 0);
            }
        }
    }

    /** Ends as many blocks. */
    static void end(ChancePrograms x, int blocks) {
        for (int n = 0; n < blocks; n++) {
            x.put(END, 0, 0);
        }
    }

    /** A program of which no run is kept. */
    static void noneKept(ChancePrograms x) {
        x.put(DRAW, 0, 0);
        x.put(FLIP, 1, 5);
        putOnValue(x, KEEP, 0, 0);
    }
}
