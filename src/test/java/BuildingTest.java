/** Promises 1 to 8: the calls by which a program is put together. */
public final class BuildingTest extends Checks {
    public static void main(String[] args) {
        newObject();
        pushedValues();
        pushedVariables();
        pushRefusals();
        pushLarge();
        pop();
        putNumbersAndArguments();
        putRefusalOrder();
        putFull();
        putBlocks();
        putElse();
        putBreak();
        putTakesTopmost();
        drop();
        dropOpensBlocks();
        clear();
        tune();
        statements();
        finish();
    }

    private static void newObject() {
        ChancePrograms x = new ChancePrograms();
        due("1: statements()", x.statements(), 0);
        due("1: pop()", x.pop(), -1);
        due("1: drop()", x.drop(), -1);
        due("1: visits(0)", x.visits(0), -1);
        due("1: tune(0, 0)", x.tune(0, 0), -1);
        due("1: put END", x.put(END, 0, 0), -4);
        due("1: put KEEP", x.put(KEEP, 0, 0), -3);
        due("1: weight()", x.weight(), ALL);
        due("1: greatest()", x.greatest(), ALL);
        due("1: likely(0)", x.likely(0), -2);
        due("1: follow(0)", x.follow(0), 0);
        due("1: follow(-1)", x.follow(-1), 0);
        for (int v = 0; v < 3; v++) {
            due("1: weightOf(" + v + ", 0)", x.weightOf(v, 0), ALL);
        }
        ChancePrograms other = new ChancePrograms();
        x.push(CONST, 1);
        x.put(LOOP, 0, 1);
        due("1: another object has no expression", other.pop(), -1);
        due("1: another object has no statement", other.statements(), 0);
        due("1: another object has no block", other.put(END, 0, 0), -4);
    }

    private static int valueOf(int kind, int x, int y) {
        ChancePrograms c = new ChancePrograms();
        c.push(CONST, x);
        c.push(CONST, y);
        due("2: push(" + kind + ", 0)", c.push(kind, 0), kind == NOT ? 2 : 1);
        c.put(SET, 2, 0);
        return c.follow(0) / 16;
    }

    /** In each table, y runs within a group of four, and x from group to group. */
    private static void pushedValues() {
        int[] kinds = {PLUS, MINUS, TIMES, EQUAL, LESS, BOTH, CHOICE, NOT};
        String[] tables = {
            "0123 1230 2301 3012", "0321 1032 2103 3210", "0000 0123 0202 0321", "1000 0100 0010 0001",
            "0111 0011 0001 0000", "0000 0111 0111 0111", "0123 1111 2222 3333", "1000 1000 1000 1000"};
        for (int n = 0; n < kinds.length; n++) {
            for (int x = 0; x < 4; x++) {
                for (int y = 0; y < 4; y++) {
                    int want = tables[n].charAt(5 * x + y) - '0';
                    due("2: kind " + kinds[n] + " of " + x + ", " + y, valueOf(kinds[n], x, y), want);
                }
            }
        }
        for (int a = 0; a < 4; a++) {
            ChancePrograms c = new ChancePrograms();
            putOnValue(c, SET, 0, a);
            due("2: CONST " + a, c.follow(0), a);
        }
    }

    private static void pushedVariables() {
        for (int a = 0; a < 3; a++) {
            ChancePrograms x = new ChancePrograms();
            due("2: push(VAR)", x.push(VAR, a), 1);
            x.put(DRAW, 0, 0);
            x.put(DRAW, 1, 0);
            x.put(DRAW, 2, 0);
            x.put(SET, (a + 1) % 3, 0);
            // The draws give 1, 2 and 3; then one of them is copied.
            int[] wants = {1 + 4 * 1 + 16 * 3, 1 + 4 * 2 + 16 * 2, 3 + 4 * 2 + 16 * 3};
            due("2: VAR " + a + " is read when it is carried out", x.follow(1 + 4 * 2 + 16 * 3), wants[a]);
        }
        ChancePrograms x = new ChancePrograms();
        x.put(DRAW, 0, 0);
        x.put(DRAW, 1, 0);
        x.push(VAR, 0);
        x.push(VAR, 1);
        x.push(MINUS, 99);
        x.put(SET, 2, 0);
        due("2: y is the top", x.follow(3 + 4 * 1), 3 + 4 * 1 + 16 * 2);
        due("2: MINUS goes round", x.follow(1 + 4 * 3), 1 + 4 * 3 + 16 * 2);
        due("2: MINUS of 0 and 1", x.follow(0 + 4 * 1), 0 + 4 * 1 + 16 * 3);
    }

    private static void pushRefusals() {
        ChancePrograms x = new ChancePrograms();
        int[] noKinds = {-1, 10, 11, Integer.MIN_VALUE, Integer.MAX_VALUE};
        for (int kind : noKinds) {
            due("2: push(" + kind + ", 0)", x.push(kind, 0), -1);
        }
        for (int a : NO_VALUES) {
            due("2: push(CONST, " + a + ")", x.push(CONST, a), -1);
        }
        for (int a : NO_VARIABLES) {
            due("2: push(VAR, " + a + ")", x.push(VAR, a), -1);
        }
        for (int kind = PLUS; kind <= CHOICE; kind++) {
            due("2: push(" + kind + ") on none", x.push(kind, 99), -2);
        }
        due("2: push(CONST, 3)", x.push(CONST, 3), 1);
        for (int kind = PLUS; kind <= CHOICE; kind++) {
            if (kind != NOT) {
                due("2: push(" + kind + ") on one", x.push(kind, -1), -2);
            }
        }
        due("2: push(VAR, 2)", x.push(VAR, 2), 2);
        for (int n = 3; n <= 6; n++) {
            due("2: push(CONST, 1)", x.push(CONST, 1), n);
        }
        due("2: CONST on six", x.push(CONST, 0), -3);
        due("2: VAR on six", x.push(VAR, 0), -3);
        due("2: wrong CONST on six", x.push(CONST, 4), -1);
        due("2: wrong VAR on six", x.push(VAR, 3), -1);
        due("2: wrong kind on six", x.push(10, 0), -1);
        due("2: NOT on six", x.push(NOT, Integer.MIN_VALUE), 6);
        due("2: CHOICE on six", x.push(CHOICE, Integer.MAX_VALUE), 5);
        due("2: CONST on five", x.push(CONST, 2), 6);
        int[] wants = {2, 1, 1, 1, 0, 3};
        for (int want : wants) {
            x.put(SET, 0, 0);
            due("2: refusals left the stack as it was", x.follow(0), want);
        }
        due("2: the stack is used up", x.pop(), -1);
    }

    private static void pushLarge() {
        ChancePrograms x = new ChancePrograms();
        x.put(DRAW, 0, 0);
        x.push(VAR, 0);
        for (int n = 0; n < 101; n++) {
            due("2: push(NOT)", x.push(NOT, 0), 1);
        }
        for (int n = 0; n < 201; n++) {
            due("2: push(VAR)", x.push(VAR, 0), 2);
            due("2: push(PLUS)", x.push(PLUS, 0), 1);
        }
        x.put(SET, 1, 0);
        // 101 NOTs are one NOT, and 201 times the variable is once the variable.
        due("2: large expression of 0", x.follow(0), 0 + 4 * 1);
        due("2: large expression of 3", x.follow(3), 3 + 4 * 3);
    }

    private static void pop() {
        ChancePrograms x = new ChancePrograms();
        due("3: pop() on none", x.pop(), -1);
        x.push(CONST, 1);
        x.push(CONST, 2);
        x.push(CONST, 3);
        due("3: pop()", x.pop(), 2);
        putOnTop(x);
        due("3: the topmost was taken off", x.follow(0), 2);
        due("3: pop()", x.pop(), 0);
        due("3: pop() on none again", x.pop(), -1);
        due("3: refused pop() left the count", x.push(CONST, 0), 1);
        for (int n = 2; n <= 6; n++) {
            x.push(CONST, 0);
        }
        due("3: pop() of six", x.pop(), 5);
        due("3: there is room again", x.push(CONST, 1), 6);
        due("3: statements are left alone", x.statements(), 1);
    }

    private static void putOnTop(ChancePrograms x) {
        x.put(SET, 0, 0);
    }

    private static void putNumbersAndArguments() {
        ChancePrograms x = new ChancePrograms();
        int[] noKinds = {-1, 9, 10, Integer.MIN_VALUE, Integer.MAX_VALUE};
        for (int kind : noKinds) {
            due("4: put(" + kind + ", 0, 1)", x.put(kind, 0, 1), -1);
        }
        x.push(CONST, 1);
        for (int a : NO_VARIABLES) {
            due("4: SET " + a, x.put(SET, a, 1), -1);
            due("4: FLIP " + a, x.put(FLIP, a, 1), -1);
            due("4: DRAW " + a, x.put(DRAW, a, 1), -1);
        }
        int[] noWeights = {-1, 17, Integer.MIN_VALUE, Integer.MAX_VALUE};
        for (int p : noWeights) {
            due("4: FLIP with p " + p, x.put(FLIP, 0, p), -1);
        }
        int[] noRounds = {-1, 0, 4, Integer.MIN_VALUE, Integer.MAX_VALUE};
        for (int p : noRounds) {
            due("4: LOOP with p " + p, x.put(LOOP, 0, p), -1);
        }
        due("4: none of them was put", x.statements(), 0);
        due("4: SET 2, p free", x.put(SET, 2, -9), 0);
        due("4: DRAW 2, p free", x.put(DRAW, 2, 99), 1);
        due("4: FLIP 0 with 0", x.put(FLIP, 0, 0), 2);
        due("4: FLIP 2 with 16", x.put(FLIP, 2, 16), 3);
        x.push(CONST, 1);
        due("4: KEEP, a and p free", x.put(KEEP, -1, 99), 4);
        due("4: LOOP 1, a free", x.put(LOOP, 99, 1), 5);
        due("4: LOOP 3, a free", x.put(LOOP, -1, 3), 6);
        due("4: BREAK, a and p free", x.put(BREAK, 99, -1), 7);
        due("4: END, a and p free", x.put(END, -1, 99), 8);
        x.push(CONST, 1);
        due("4: IF, a and p free", x.put(IF, 3, -1), 9);
        due("4: ELSE, a and p free", x.put(ELSE, -1, 17), 10);
        due("4: statements()", x.statements(), 11);
    }

    private static void putRefusalOrder() {
        ChancePrograms x = new ChancePrograms();
        due("4: SET with wrong a and no expression", x.put(SET, 3, 0), -1);
        due("4: SET with no expression", x.put(SET, 0, 0), -3);
        due("4: KEEP with no expression", x.put(KEEP, 0, 0), -3);
        due("4: IF with no expression", x.put(IF, 0, 0), -3);
        for (int n = 0; n < 3; n++) {
            x.put(LOOP, 0, 1);
        }
        due("4: IF with no expression and three blocks", x.put(IF, 0, 0), -3);
        due("4: LOOP with wrong p and three blocks", x.put(LOOP, 0, 4), -1);
        x.push(CONST, 2);
        due("4: IF with three blocks", x.put(IF, 0, 0), -4);
        due("4: refused IF left its expression", x.push(CONST, 3), 2);
        due("4: refused IF was not put", x.statements(), 3);
        due("4: refused IF opened nothing", x.put(END, 0, 0), 3);
        x.pop();
        x.put(SET, 0, 0);
        due("4: and it is the same expression", x.follow(0), 2);
    }

    private static void putFull() {
        ChancePrograms x = new ChancePrograms();
        for (int n = 0; n < 24; n++) {
            due("4: put(FLIP)", x.put(FLIP, 0, 16), n);
        }
        due("4: FLIP on 24", x.put(FLIP, 0, 16), -2);
        due("4: wrong FLIP on 24", x.put(FLIP, 3, 16), -1);
        due("4: LOOP on 24", x.put(LOOP, 0, 1), -2);
        due("4: SET without expression on 24", x.put(SET, 0, 0), -2);
        due("4: END without block on 24", x.put(END, 0, 0), -2);
        due("4: ELSE without block on 24", x.put(ELSE, 0, 0), -2);
        due("4: BREAK without block on 24", x.put(BREAK, 0, 0), -2);
        x.push(CONST, 1);
        due("4: KEEP on 24", x.put(KEEP, 0, 0), -2);
        due("4: refused KEEP left its expression", x.pop(), 0);
        due("4: statements()", x.statements(), 24);
        due("4: drop()", x.drop(), 23);
        due("4: there is room again", x.put(LOOP, 0, 3), 23);
        due("4: weight() of 23 random steps", x.weight(), 0);
        x.clear();
        for (int n = 0; n < 21; n++) {
            putCount(x, 0);
        }
        for (int n = 21; n < 24; n++) {
            due("4: LOOP at the very end", x.put(LOOP, 0, 3), n);
        }
        due("4: weight() with three open LOOPs at the end", x.weight(), ALL);
        due("4: follow() with three open LOOPs at the end", x.follow(0), 21 % 4);
        due("4: visits(23) with three open LOOPs at the end", x.visits(23), 9L * ALL);
    }

    private static void putBlocks() {
        ChancePrograms x = new ChancePrograms();
        due("4: END with no block", x.put(END, 0, 0), -4);
        due("4: LOOP", x.put(LOOP, 0, 2), 0);
        x.push(CONST, 1);
        due("4: IF", x.put(IF, 0, 0), 1);
        due("4: LOOP", x.put(LOOP, 0, 2), 2);
        due("4: fourth LOOP", x.put(LOOP, 0, 2), -4);
        x.push(CONST, 1);
        due("4: fourth IF", x.put(IF, 0, 0), -4);
        due("4: END", x.put(END, 0, 0), 3);
        due("4: IF in place of the LOOP", x.put(IF, 0, 0), 4);
        due("4: ELSE is no block of its own", x.put(ELSE, 0, 0), 5);
        due("4: fourth block in ELSE", x.put(LOOP, 0, 2), -4);
        due("4: END", x.put(END, 0, 0), 6);
        due("4: END", x.put(END, 0, 0), 7);
        due("4: END", x.put(END, 0, 0), 8);
        due("4: END with no block left", x.put(END, 0, 0), -4);
        due("4: weight()", x.weight(), ALL);
    }

    private static void putElse() {
        ChancePrograms x = new ChancePrograms();
        due("4: ELSE with no block", x.put(ELSE, 0, 0), -4);
        x.put(LOOP, 0, 1);
        due("4: ELSE in a LOOP", x.put(ELSE, 0, 0), -4);
        putOnValue(x, IF, 0, 1);
        x.put(LOOP, 0, 1);
        due("4: ELSE in a LOOP in an IF", x.put(ELSE, 0, 0), -4);
        x.put(END, 0, 0);
        due("4: ELSE in an IF behind a LOOP", x.put(ELSE, 0, 0), 4);
        due("4: second ELSE", x.put(ELSE, 0, 0), -4);
        putOnValue(x, IF, 0, 1);
        due("4: ELSE of an IF in an ELSE", x.put(ELSE, 0, 0), 6);
        x.put(END, 0, 0);
        due("4: second ELSE behind an inner IF", x.put(ELSE, 0, 0), -4);
        x.put(END, 0, 0);
        due("4: ELSE behind the END", x.put(ELSE, 0, 0), -4);
        due("4: statements()", x.statements(), 9);
        // An IF that is put where another one with ELSE stood begins without ELSE.
        x.clear();
        putOnValue(x, IF, 0, 1);
        x.put(ELSE, 0, 0);
        x.clear();
        putOnValue(x, IF, 0, 1);
        due("4: ELSE of a new IF", x.put(ELSE, 0, 0), 1);
    }

    private static void putBreak() {
        ChancePrograms x = new ChancePrograms();
        due("4: BREAK with no block", x.put(BREAK, 0, 0), -4);
        putOnValue(x, IF, 0, 1);
        due("4: BREAK in an IF alone", x.put(BREAK, 0, 0), -4);
        x.put(LOOP, 0, 2);
        due("4: BREAK in a LOOP in an IF", x.put(BREAK, 0, 0), 2);
        putOnValue(x, IF, 0, 1);
        due("4: BREAK in an IF in a LOOP", x.put(BREAK, 0, 0), 4);
        x.put(ELSE, 0, 0);
        due("4: BREAK in an ELSE in a LOOP", x.put(BREAK, 0, 0), 6);
        x.put(END, 0, 0);
        x.put(END, 0, 0);
        due("4: BREAK behind the LOOP", x.put(BREAK, 0, 0), -4);
        x.clear();
        x.put(LOOP, 0, 1);
        putOnValue(x, IF, 0, 1);
        putOnValue(x, IF, 0, 1);
        due("4: BREAK two IFs deep", x.put(BREAK, 0, 0), 3);
    }

    private static void putTakesTopmost() {
        ChancePrograms x = new ChancePrograms();
        x.push(CONST, 1);
        x.push(CONST, 2);
        x.push(CONST, 0);
        x.push(CONST, 3);
        x.put(SET, 0, 0);
        due("4: SET takes the topmost", x.follow(0), 3);
        x.put(KEEP, 0, 0);
        due("4: KEEP takes the next", x.follow(0), -2);
        x.drop();
        x.put(DRAW, 1, 0);
        x.put(LOOP, 0, 1);
        due("4: FLIP takes none", x.put(FLIP, 1, 8), 3);
        due("4: two expressions are left", x.push(CONST, 0), 3);
        x.pop();
        x.put(IF, 0, 0);
        due("4: one expression is left", x.pop(), 0);
    }

    private static void drop() {
        ChancePrograms x = new ChancePrograms();
        due("5: drop() on none", x.drop(), -1);
        putOnValue(x, SET, 0, 1);
        putOnValue(x, SET, 1, 2);
        due("5: follow() before", x.follow(0), 1 + 4 * 2);
        due("5: drop()", x.drop(), 1);
        due("5: the last one is gone", x.follow(0), 1);
        due("5: its expression is gone", x.pop(), -1);
        x.push(CONST, 3);
        due("5: drop()", x.drop(), 0);
        due("5: drop() on none again", x.drop(), -1);
        due("5: expressions on the stack stay", x.pop(), 0);
        due("5: statements()", x.statements(), 0);
        due("5: follow() of nothing", x.follow(0), 0);
        due("5: put() begins at 0 again", x.put(DRAW, 0, 0), 0);
    }

    private static void dropOpensBlocks() {
        ChancePrograms x = new ChancePrograms();
        x.put(LOOP, 0, 3);
        putCount(x, 0);
        x.put(END, 0, 0);
        putCount(x, 1);
        due("5: SET behind the LOOP", x.follow(0), 3 + 4 * 1);
        x.drop();
        due("5: drop() of END", x.drop(), 2);
        putCount(x, 1);
        due("5: the LOOP is open again", x.follow(0), 3 + 4 * 3);
        due("5: and can be ended again", x.put(END, 0, 0), 3);
        x.clear();
        putOnValue(x, IF, 0, 1);
        x.put(ELSE, 0, 0);
        due("5: drop() of ELSE", x.drop(), 1);
        due("5: ELSE may stand again", x.put(ELSE, 0, 0), 1);
        x.put(END, 0, 0);
        x.drop();
        due("5: the IF has its ELSE after drop() of END", x.put(ELSE, 0, 0), -4);
        x.drop();
        due("5: drop() of IF", x.drop(), 0);
        due("5: no block is open", x.put(END, 0, 0), -4);
        x.put(LOOP, 0, 1);
        x.drop();
        due("5: drop() of LOOP closes it", x.put(BREAK, 0, 0), -4);
        for (int n = 0; n < 3; n++) {
            x.put(LOOP, 0, 1);
        }
        x.drop();
        due("5: drop() makes room for a block", x.put(LOOP, 0, 2), 2);
        due("5: but for no more than one", x.put(LOOP, 0, 2), -4);
    }

    private static void clear() {
        ChancePrograms x = new ChancePrograms();
        x.clear();
        due("6: clear() of nothing", x.statements(), 0);
        for (int n = 0; n < 3; n++) {
            x.put(LOOP, 0, 2);
        }
        x.put(DRAW, 0, 0);
        x.push(CONST, 1);
        x.push(CONST, 1);
        due("6: weight() before", x.weight(), 0);
        x.clear();
        due("6: statements()", x.statements(), 0);
        due("6: pop()", x.pop(), -1);
        due("6: drop()", x.drop(), -1);
        due("6: weight()", x.weight(), ALL);
        due("6: no block is open", x.put(END, 0, 0), -4);
        due("6: no LOOP is open", x.put(BREAK, 0, 0), -4);
        due("6: visits(0)", x.visits(0), -1);
        due("6: tune(0, 1)", x.tune(0, 1), -1);
        due("6: push()", x.push(CONST, 1), 1);
        due("6: put()", x.put(SET, 1, 0), 0);
        due("6: follow()", x.follow(0), 4);
        for (int n = 1; n < 4; n++) {
            due("6: LOOP", x.put(LOOP, 0, 1), n);
        }
    }

    private static void tune() {
        ChancePrograms x = new ChancePrograms();
        x.put(FLIP, 0, 4);
        x.put(DRAW, 1, 5);
        x.put(LOOP, 0, 2);
        x.put(FLIP, 2, 16);
        due("7: tune(0, 9)", x.tune(0, 9), 4);
        due("7: weightOf(0, 1)", x.weightOf(0, 1), ALL / 16 * 9);
        due("7: tune(0, 0)", x.tune(0, 0), 9);
        due("7: weightOf(0, 1)", x.weightOf(0, 1), 0);
        due("7: tune(0, 16)", x.tune(0, 16), 0);
        due("7: weightOf(0, 1)", x.weightOf(0, 1), ALL);
        due("7: tune(3, 8)", x.tune(3, 8), 16);
        due("7: weightOf(2, 1)", x.weightOf(2, 1), ALL / 2);
        int[] noFlips = {-1, 1, 2, 4, 5, 23, 24, 27, Integer.MIN_VALUE, Integer.MAX_VALUE};
        for (int i : noFlips) {
            due("7: tune(" + i + ", 8)", x.tune(i, 8), -1);
            due("7: tune(" + i + ", 17)", x.tune(i, 17), -1);
        }
        int[] noWeights = {-1, 17, Integer.MIN_VALUE, Integer.MAX_VALUE};
        for (int p : noWeights) {
            due("7: tune(0, " + p + ")", x.tune(0, p), -2);
        }
        due("7: refused tune() left p", x.tune(0, 3), 16);
        due("7: LOOP is as it was", x.visits(3), 2L * ALL);
        x.drop();
        due("7: a FLIP that was dropped", x.tune(3, 1), -1);
    }

    private static void statements() {
        ChancePrograms x = new ChancePrograms();
        due("8: statements()", x.statements(), 0);
        x.put(DRAW, 0, 0);
        due("8: statements()", x.statements(), 1);
        x.put(LOOP, 0, 2);
        due("8: an open block counts no END", x.statements(), 2);
        x.put(DRAW, 3, 0);
        due("8: a refused put() counts not", x.statements(), 2);
        x.put(END, 0, 0);
        due("8: END counts", x.statements(), 3);
        x.push(CONST, 0);
        due("8: expressions count not", x.statements(), 3);
        x.drop();
        due("8: statements() after drop()", x.statements(), 2);
        x.weight();
        due("8: statements() after weight()", x.statements(), 2);
    }
}
