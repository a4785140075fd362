/** What the tests share: the kinds by name, and the count of wrong answers. */
abstract class Checks {
    static final int CONST = 0;
    static final int VAR = 1;
    static final int PLUS = 2;
    static final int MINUS = 3;
    static final int TIMES = 4;
    static final int EQUAL = 5;
    static final int LESS = 6;
    static final int NOT = 7;
    static final int BOTH = 8;
    static final int CHOICE = 9;

    static final int SET = 0;
    static final int FLIP = 1;
    static final int DRAW = 2;
    static final int KEEP = 3;
    static final int IF = 4;
    static final int ELSE = 5;
    static final int LOOP = 6;
    static final int BREAK = 7;
    static final int END = 8;

    /** The weight of all runs together: 16 to the sixth. */
    static final int ALL = 16777216;

    static final int[] NO_VARIABLES = {-1, 3, 4, Integer.MIN_VALUE, Integer.MAX_VALUE};
    static final int[] NO_VALUES = {-1, 4, 5, Integer.MIN_VALUE, Integer.MAX_VALUE};

    private static int wrong = 0;

    static void due(String call, long got, long want) {
        if (got != want) {
            wrong++;
            System.out.println(call + " answered " + got + ", due is " + want);
        }
    }

    static void holds(String what, boolean truth) {
        if (!truth) {
            wrong++;
            System.out.println("does not hold: " + what);
        }
    }

    static void finish() {
        System.out.println(wrong == 0 ? "all answers are as due" : wrong + " answers are not as due");
        if (wrong != 0) {
            System.exit(1);
        }
    }

    /** Puts a statement that takes an expression, with the given variable as that expression. */
    static void putOnVariable(ChancePrograms x, int kind, int a, int read) {
        x.push(VAR, read);
        x.put(kind, a, 0);
    }

    /** Puts a statement that takes an expression, with the given value as that expression. */
    static void putOnValue(ChancePrograms x, int kind, int a, int value) {
        x.push(CONST, value);
        x.put(kind, a, 0);
    }

    /** Puts a statement that takes an expression: whether the variable has the value. */
    static void putOnEqual(ChancePrograms x, int kind, int a, int read, int value) {
        x.push(VAR, read);
        x.push(CONST, value);
        x.push(EQUAL, 0);
        x.put(kind, a, 0);
    }

    /** Puts the SET by which the variable becomes one more. */
    static void putCount(ChancePrograms x, int a) {
        x.push(VAR, a);
        x.push(CONST, 1);
        x.push(PLUS, 0);
        x.put(SET, a, 0);
    }
}
