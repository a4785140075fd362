/** The boundary cases of promises 1 to 8, a method for each sentence that names one; it is quoted above. */
public final class BuildingEdgesTest extends Edges {
    private static final int[] ANY = {Integer.MIN_VALUE, -1, 0, 3, 4, 17, Integer.MAX_VALUE};

    public static void main(String[] args) {
        newObject();
        pushKind();
        pushConst();
        pushVar();
        pushOtherKinds();
        pushFewer();
        pushOnSix();
        pushOrder();
        pop();
        putKind();
        putVariable();
        putFlip();
        putLoop();
        putNotLookedAt();
        putOn24();
        putOnNoExpression();
        putFourthBlock();
        putElse();
        putBreak();
        putEnd();
        putOrder();
        putAnswers();
        dropBlocks();
        dropExpression();
        dropNone();
        clear();
        tuneNoFlip();
        tuneP();
        tuneOrder();
        tuneTaken();
        statements();
        finish();
    }

    /** Promise 1: "No statements, no expressions." */
    private static void newObject() {
        due("1: statements()", new ChancePrograms().statements(), 0);
        due("1: drop()", new ChancePrograms().drop(), -1);
        due("1: pop()", new ChancePrograms().pop(), -1);
        due("1: push(NOT)", new ChancePrograms().push(NOT, 0), -2);
        due("1: put SET", new ChancePrograms().put(SET, 0, 0), -3);
        due("1: put IF", new ChancePrograms().put(IF, 0, 0), -3);
        due("1: put ELSE", new ChancePrograms().put(ELSE, 0, 0), -4);
        due("1: put BREAK", new ChancePrograms().put(BREAK, 0, 0), -4);
        due("1: put END", new ChancePrograms().put(END, 0, 0), -4);
        due("1: tune(0, 1)", new ChancePrograms().tune(0, 1), -1);
        due("1: visits(0)", new ChancePrograms().visits(0), -1);
        due("1: put DRAW", new ChancePrograms().put(DRAW, 0, 0), 0);
        due("1: push(CONST)", new ChancePrograms().push(CONST, 0), 1);
        // Objects that were made and used before leave a new one as it is.
        alike("1: a new object beside others", x -> {
            ChancePrograms other = new ChancePrograms();
            richOf(other, 24);
            other.weight();
        }, NOTHING);
    }

    /** Promise 2: "kind is not 0 to 9 ...: -1" */
    private static void pushKind() {
        for (int kind = 0; kind <= 9; kind++) {
            ChancePrograms x = new ChancePrograms();
            x.push(CONST, 2);
            x.push(CONST, 1);
            due("2: kind " + kind, x.push(kind, 0), kind < 2 ? 3 : kind == NOT ? 2 : 1);
        }
        int[] near = {-1, 10, -2, 11};
        Build[] builds = {NOTHING, Edges::rich, Edges::sixExpressions};
        for (Build build : builds) {
            for (int kind : near) {
                refused("2: kind " + kind, build, x -> x.push(kind, 0), -1);
            }
            for (int kind : FAR_OUT) {
                refused("2: kind " + kind, build, x -> x.push(kind, 0), -1);
            }
        }
    }

    /** Promise 2: "a is not 0 to 3 for CONST": -1 */
    private static void pushConst() {
        for (int a = 0; a <= 3; a++) {
            ChancePrograms x = new ChancePrograms();
            due("2: CONST " + a, x.push(CONST, a), 1);
            x.put(SET, 0, 0);
            due("2: the value of CONST " + a, x.follow(0), a);
        }
        refused("2: CONST -1", Edges::rich, x -> x.push(CONST, -1), -1);
        refused("2: CONST 4", Edges::rich, x -> x.push(CONST, 4), -1);
        refused("2: CONST 4 on nothing", NOTHING, x -> x.push(CONST, 4), -1);
        for (int a : FAR_OUT) {
            refused("2: CONST " + a, Edges::rich, x -> x.push(CONST, a), -1);
        }
    }

    /** Promise 2: "or not 0 to 2 for VAR": -1 */
    private static void pushVar() {
        for (int a = 0; a <= 2; a++) {
            ChancePrograms x = new ChancePrograms();
            putOnValue(x, SET, a, 3);
            due("2: VAR " + a, x.push(VAR, a), 1);
            x.put(SET, (a + 1) % 3, 0);
            due("2: the value of VAR " + a, x.follow(0), (3 << (2 * a)) + (3 << (2 * ((a + 1) % 3))));
        }
        refused("2: VAR -1", Edges::rich, x -> x.push(VAR, -1), -1);
        refused("2: VAR 3", Edges::rich, x -> x.push(VAR, 3), -1);
        refused("2: VAR 3 on nothing", NOTHING, x -> x.push(VAR, 3), -1);
        for (int a : FAR_OUT) {
            refused("2: VAR " + a, Edges::rich, x -> x.push(VAR, a), -1);
        }
    }

    /** Promise 2: "for other kinds a is not looked at" */
    private static void pushOtherKinds() {
        for (int kind = PLUS; kind <= CHOICE; kind++) {
            for (int a : ANY) {
                int any = kind;
                alike("2: kind " + kind + " with a " + a, x -> {
                    sixExpressions(x);
                    x.push(any, a);
                }, x -> {
                    sixExpressions(x);
                    x.push(any, 1);
                });
                refused("2: kind " + kind + " with a " + a + " on nothing", NOTHING, x -> x.push(any, a), -2);
            }
        }
    }

    /** Promise 2: "the stack has fewer expressions than it takes: -2" */
    private static void pushFewer() {
        for (int kind = PLUS; kind <= CHOICE; kind++) {
            int any = kind;
            Build one = x -> x.push(CONST, 2);
            refused("2: kind " + kind + " on none", NOTHING, x -> x.push(any, 0), -2);
            if (kind != NOT) {
                refused("2: kind " + kind + " on one", one, x -> x.push(any, 0), -2);
            }
            ChancePrograms x = new ChancePrograms();
            x.push(CONST, 2);
            if (kind != NOT) {
                x.push(CONST, 1);
            }
            due("2: kind " + kind + " on just enough", x.push(kind, 0), 1);
            // Expressions that were taken off by pop, by put or by clear don't count.
            x.pop();
            due("2: kind " + kind + " after pop()", x.push(kind, 0), -2);
            putOnValue(x, SET, 0, 1);
            due("2: kind " + kind + " after put()", x.push(kind, 0), -2);
            sixExpressions(x);
            x.clear();
            due("2: kind " + kind + " after clear()", x.push(kind, 0), -2);
        }
    }

    /** Promise 2: "it takes nothing and the stack has 6: -3" */
    private static void pushOnSix() {
        for (int a = 0; a <= 3; a++) {
            int any = a;
            refused("2: CONST " + a + " on six", Edges::sixExpressions, x -> x.push(CONST, any), -3);
        }
        for (int a = 0; a <= 2; a++) {
            int any = a;
            refused("2: VAR " + a + " on six", Edges::sixExpressions, x -> x.push(VAR, any), -3);
        }
        for (int kind = PLUS; kind <= CHOICE; kind++) {
            ChancePrograms x = new ChancePrograms();
            sixExpressions(x);
            due("2: kind " + kind + " on six", x.push(kind, 0), kind == NOT ? 6 : 5);
        }
        ChancePrograms x = new ChancePrograms();
        sixExpressions(x);
        x.pop();
        due("2: CONST on five", x.push(CONST, 0), 6);
        x.pop();
        due("2: VAR on five", x.push(VAR, 0), 6);
    }

    /** "The tests of a call are made in the order in which they are named": push */
    private static void pushOrder() {
        refused("2: CONST 4 on six", Edges::sixExpressions, x -> x.push(CONST, 4), -1);
        refused("2: CONST -1 on six", Edges::sixExpressions, x -> x.push(CONST, -1), -1);
        refused("2: VAR 3 on six", Edges::sixExpressions, x -> x.push(VAR, 3), -1);
        refused("2: VAR -1 on six", Edges::sixExpressions, x -> x.push(VAR, -1), -1);
        refused("2: kind 10 on six", Edges::sixExpressions, x -> x.push(10, 0), -1);
        refused("2: kind 10 on none", NOTHING, x -> x.push(10, 0), -1);
        refused("2: kind -1 on none", NOTHING, x -> x.push(-1, 0), -1);
    }

    /** Promise 3: "The stack is empty: -1. Else answers how many are left." */
    private static void pop() {
        refused("3: pop() of a new object", NOTHING, ChancePrograms::pop, -1);
        refused("3: pop() with statements alone", Edges::bareOf24, ChancePrograms::pop, -1);
        ChancePrograms x = new ChancePrograms();
        sixExpressions(x);
        for (int left = 5; left >= 0; left--) {
            due("3: pop()", x.pop(), left);
        }
        due("3: pop() of none", x.pop(), -1);
        due("3: push() after it", x.push(CONST, 3), 1);
        due("3: pop() of one", x.pop(), 0);
        refused("3: pop() after put() took the last one", y -> putOnValue(y, SET, 0, 2), ChancePrograms::pop, -1);
        refused("3: pop() after clear()", y -> {
            sixExpressions(y);
            y.clear();
        }, ChancePrograms::pop, -1);
        alike("3: push() and pop()", y -> {
            rich(y);
            y.push(VAR, 2);
            y.pop();
        }, Edges::rich);
    }

    /** Promise 4: "kind is not 0 to 8 ...: -1" */
    private static void putKind() {
        for (int kind = 0; kind <= 8; kind++) {
            ChancePrograms x = new ChancePrograms();
            open(x, "LI");
            x.push(CONST, 1);
            due("4: kind " + kind, x.put(kind, 0, 1), 2);
        }
        int[] near = {-1, 9, -2, 10};
        Build[] builds = {NOTHING, Edges::rich, Edges::bareOf24};
        for (Build build : builds) {
            for (int kind : near) {
                refused("4: kind " + kind, build, x -> x.put(kind, 0, 1), -1);
            }
            for (int kind : FAR_OUT) {
                refused("4: kind " + kind, build, x -> x.put(kind, 0, 1), -1);
            }
        }
    }

    /** Promise 4: "for SET, FLIP and DRAW, a is not 0 to 2": -1 */
    private static void putVariable() {
        for (int kind = SET; kind <= DRAW; kind++) {
            int any = kind;
            for (int a = 0; a <= 2; a++) {
                ChancePrograms x = new ChancePrograms();
                x.push(CONST, 1);
                due("4: kind " + kind + " with a " + a, x.put(kind, a, 16), 0);
                due("4: kind " + kind + " sets variable " + a, x.follow(1), 1 << (2 * a));
            }
            refused("4: kind " + kind + " with a -1", Edges::rich, x -> x.put(any, -1, 1), -1);
            refused("4: kind " + kind + " with a 3", Edges::rich, x -> x.put(any, 3, 1), -1);
            for (int a : FAR_OUT) {
                refused("4: kind " + kind + " with a " + a, Edges::rich, x -> x.put(any, a, 1), -1);
            }
        }
    }

    /** Promise 4: "p is not 0 to 16 for FLIP": -1 */
    private static void putFlip() {
        for (int p = 0; p <= 16; p++) {
            ChancePrograms x = new ChancePrograms();
            due("4: FLIP with p " + p, x.put(FLIP, 0, p), 0);
            due("4: FLIP has p " + p, x.tune(0, 8), p);
        }
        refused("4: FLIP with p -1", Edges::rich, x -> x.put(FLIP, 0, -1), -1);
        refused("4: FLIP with p 17", Edges::rich, x -> x.put(FLIP, 0, 17), -1);
        for (int p : FAR_OUT) {
            refused("4: FLIP with p " + p, Edges::rich, x -> x.put(FLIP, 0, p), -1);
        }
    }

    /** Promise 4: "not 1 to 3 for LOOP": -1 */
    private static void putLoop() {
        for (int p = 1; p <= 3; p++) {
            ChancePrograms x = new ChancePrograms();
            due("4: LOOP with p " + p, x.put(LOOP, 0, p), 0);
            putCount(x, 0);
            due("4: LOOP has p " + p, x.follow(0), p);
        }
        int[] near = {0, 4, -1, 5};
        for (int p : near) {
            refused("4: LOOP with p " + p, Edges::rich, x -> x.put(LOOP, 0, p), -1);
            refused("4: LOOP with p " + p + " first", NOTHING, x -> x.put(LOOP, 0, p), -1);
        }
        for (int p : FAR_OUT) {
            refused("4: LOOP with p " + p, Edges::rich, x -> x.put(LOOP, 0, p), -1);
        }
    }

    /** Promise 4: "otherwise a and p are not looked at" */
    private static void putNotLookedAt() {
        int[] noA = {KEEP, IF, ELSE, LOOP, BREAK, END};
        int[] noP = {SET, DRAW, KEEP, IF, ELSE, BREAK, END};
        for (int any : ANY) {
            for (int kind : noA) {
                alike("4: kind " + kind + " with a " + any, x -> readyFor(x, kind, any, 2), x -> readyFor(x, kind, 0, 2));
            }
            for (int kind : noP) {
                alike("4: kind " + kind + " with p " + any, x -> readyFor(x, kind, 1, any), x -> readyFor(x, kind, 1, 2));
            }
        }
    }

    /** Puts the statement in a block of an IF in a LOOP, where every kind is taken. */
    private static void readyFor(ChancePrograms x, int kind, int a, int p) {
        x.put(DRAW, 0, 0);
        open(x, "LI");
        x.push(VAR, 0);
        x.push(VAR, 0);
        due("4: kind " + kind + " is taken", x.put(kind, a, p), 3);
        putCount(x, 2);
    }

    /** Promise 4: "There are 24 statements: -2." */
    private static void putOn24() {
        for (int kind = SET; kind <= END; kind++) {
            int any = kind;
            refused("4: kind " + kind + " on 24", x -> richOf(x, 24), x -> x.put(any, 0, 1), -2);
            refused("4: kind " + kind + " on bare 24", Edges::bareOf24, x -> x.put(any, 0, 1), -2);
            ChancePrograms x = new ChancePrograms();
            richOf(x, 23);
            due("4: kind " + kind + " on 23", x.put(kind, 0, 1), kind == ELSE ? -4 : 23);
        }
        ChancePrograms x = new ChancePrograms();
        for (int n = 0; n < 23; n++) {
            x.put(DRAW, 0, 0);
        }
        open(x, "I");
        due("4: IF as the 24th", x.statements(), 24);
        x.drop();
        x.drop();
        open(x, "I");
        due("4: ELSE as the 24th", x.put(ELSE, 0, 0), 23);
        due("4: END as the 25th", x.put(END, 0, 0), -2);
    }

    /** Promise 4: "For SET, KEEP and IF, the stack of expressions is empty: -3." */
    private static void putOnNoExpression() {
        int[] takers = {SET, KEEP, IF};
        for (int kind : takers) {
            refused("4: kind " + kind + " on no expression", NOTHING, x -> x.put(kind, 0, 0), -3);
            refused("4: kind " + kind + " after the last was popped", x -> {
                rich(x);
                x.pop();
                x.pop();
            }, x -> x.put(kind, 0, 0), -3);
            ChancePrograms x = new ChancePrograms();
            x.push(CONST, 1);
            due("4: kind " + kind + " on one expression", x.put(kind, 0, 0), 0);
            due("4: kind " + kind + " took it", x.put(kind, 0, 0), -3);
        }
        int[] others = {FLIP, DRAW, LOOP, BREAK, END};
        for (int kind : others) {
            ChancePrograms x = new ChancePrograms();
            open(x, "L");
            due("4: kind " + kind + " needs none", x.put(kind, 0, 1), 1);
            x.drop();
            x.push(CONST, 1);
            x.put(kind, 0, 1);
            due("4: kind " + kind + " takes none", x.pop(), 0);
        }
        ChancePrograms x = new ChancePrograms();
        open(x, "I");
        due("4: ELSE needs none", x.put(ELSE, 0, 0), 1);
        for (int kind : takers) {
            x.clear();
            sixExpressions(x);
            x.put(kind, 0, 0);
            due("4: kind " + kind + " takes one of six", x.pop(), 4);
        }
    }

    /** Promise 4: "For IF and LOOP, three blocks are open": -4 */
    private static void putFourthBlock() {
        String[] threes = {"LLL", "III", "EEE", "LIE", "EIL", "ILI"};
        for (String three : threes) {
            Build build = x -> {
                x.put(DRAW, 0, 0);
                open(x, three);
                x.push(VAR, 0);
            };
            refused("4: IF in " + three, build, x -> x.put(IF, 0, 0), -4);
            refused("4: LOOP in " + three, build, x -> x.put(LOOP, 0, 3), -4);
            int[] others = {SET, DRAW, KEEP, END};
            for (int kind : others) {
                ChancePrograms x = new ChancePrograms();
                build.on(x);
                int number = x.statements();
                due("4: kind " + kind + " in " + three, x.put(kind, 0, 0), number);
            }
            ChancePrograms x = new ChancePrograms();
            build.on(x);
            x.put(END, 0, 0);
            int number = x.statements();
            due("4: IF in two of " + three, x.put(IF, 0, 0), number);
            x.drop();
            due("4: LOOP in two of " + three, x.put(LOOP, 0, 3), number);
        }
    }

    /**
     * Promise 4: "for ELSE, the innermost open block is no block of an IF without ELSE, or none is
     * open": -4
     */
    private static void putElse() {
        String[] refusing = {"", "L", "E", "IL", "EL", "IE", "LE", "LL", "ILL", "IEL", "IIE"};
        for (String blocks : refusing) {
            refused("4: ELSE in '" + blocks + "'", x -> open(x, blocks), x -> x.put(ELSE, 0, 0), -4);
        }
        String[] taking = {"I", "LI", "EI", "II", "LLI", "EEI", "ILI"};
        for (String blocks : taking) {
            ChancePrograms x = new ChancePrograms();
            open(x, blocks);
            int number = x.statements();
            due("4: ELSE in " + blocks, x.put(ELSE, 0, 0), number);
            refused("4: a second ELSE in " + blocks, y -> {
                open(y, blocks);
                y.put(ELSE, 0, 0);
            }, y -> y.put(ELSE, 0, 0), -4);
        }
        refused("4: ELSE behind the END of the IF", x -> {
            open(x, "I");
            end(x, 1);
        }, x -> x.put(ELSE, 0, 0), -4);
        refused("4: ELSE behind an IF with ELSE in an IF with ELSE", x -> {
            open(x, "EE");
            end(x, 1);
        }, x -> x.put(ELSE, 0, 0), -4);
        ChancePrograms x = new ChancePrograms();
        open(x, "IE");
        end(x, 1);
        due("4: ELSE behind an IF with ELSE in an IF", x.put(ELSE, 0, 0), 4);
        end(x, 1);
        open(x, "I");
        due("4: ELSE of the next IF", x.put(ELSE, 0, 0), 7);
    }

    /** Promise 4: "for BREAK, no block of a LOOP is open": -4 */
    private static void putBreak() {
        String[] refusing = {"", "I", "E", "II", "EI", "III", "EEE"};
        for (String blocks : refusing) {
            refused("4: BREAK in '" + blocks + "'", x -> open(x, blocks), x -> x.put(BREAK, 0, 0), -4);
        }
        String[] taking = {"L", "LI", "LE", "IL", "EL", "LII", "LEE", "ILE", "IIL", "LLL"};
        for (String blocks : taking) {
            ChancePrograms x = new ChancePrograms();
            open(x, blocks);
            int number = x.statements();
            due("4: BREAK in " + blocks, x.put(BREAK, 0, 0), number);
            due("4: BREAK in " + blocks + " once more", x.put(BREAK, 0, 0), number + 1);
        }
        refused("4: BREAK behind the LOOP", x -> {
            open(x, "L");
            end(x, 1);
        }, x -> x.put(BREAK, 0, 0), -4);
        refused("4: BREAK in an IF behind the LOOP in it", x -> {
            open(x, "IL");
            end(x, 1);
        }, x -> x.put(BREAK, 0, 0), -4);
        refused("4: BREAK in an IF behind the LOOP", x -> {
            open(x, "L");
            end(x, 1);
            open(x, "I");
        }, x -> x.put(BREAK, 0, 0), -4);
    }

    /** Promise 4: "for END, no block is open": -4 */
    private static void putEnd() {
        refused("4: END first", NOTHING, x -> x.put(END, 0, 0), -4);
        String[] all = {"L", "I", "E", "LI", "IL", "LLL", "IEL"};
        for (String blocks : all) {
            ChancePrograms x = new ChancePrograms();
            open(x, blocks);
            int number = x.statements();
            for (int n = 0; n < blocks.length(); n++) {
                due("4: END " + n + " of " + blocks, x.put(END, 0, 0), number + n);
            }
            refused("4: one END more than " + blocks, y -> {
                open(y, blocks);
                end(y, blocks.length());
            }, y -> y.put(END, 0, 0), -4);
        }
        refused("4: END without a block", x -> x.put(DRAW, 0, 0), x -> x.put(END, 0, 0), -4);
    }

    /** "The tests of a call are made in the order in which they are named": put */
    private static void putOrder() {
        Build full = Edges::bareOf24;
        Build threeOpen = x -> open(x, "LIL");
        refused("4: -1 before -2: kind 9", full, x -> x.put(9, 0, 0), -1);
        refused("4: -1 before -2: SET 3", full, x -> x.put(SET, 3, 0), -1);
        refused("4: -1 before -2: FLIP with 17", full, x -> x.put(FLIP, 0, 17), -1);
        refused("4: -1 before -2: LOOP with 0", full, x -> x.put(LOOP, 0, 0), -1);
        refused("4: -1 before -2: DRAW -1", full, x -> x.put(DRAW, -1, 0), -1);
        refused("4: -1 before -3: SET 3", NOTHING, x -> x.put(SET, 3, 0), -1);
        refused("4: -1 before -4: LOOP with 4", threeOpen, x -> x.put(LOOP, 0, 4), -1);
        refused("4: -2 before -3: SET", full, x -> x.put(SET, 0, 0), -2);
        refused("4: -2 before -3: KEEP", full, x -> x.put(KEEP, 0, 0), -2);
        refused("4: -2 before -3: IF", full, x -> x.put(IF, 0, 0), -2);
        refused("4: -2 before -4: ELSE", full, x -> x.put(ELSE, 0, 0), -2);
        refused("4: -2 before -4: BREAK", full, x -> x.put(BREAK, 0, 0), -2);
        refused("4: -2 before -4: END", full, x -> x.put(END, 0, 0), -2);
        refused("4: -2 before -4: LOOP", x -> {
            for (int n = 0; n < 21; n++) {
                x.put(DRAW, 0, 0);
            }
            open(x, "LLL");
        }, x -> x.put(LOOP, 0, 1), -2);
        refused("4: -3 before -4: IF", threeOpen, x -> x.put(IF, 0, 0), -3);
    }

    /** Promise 4: "Else answers its number." */
    private static void putAnswers() {
        ChancePrograms x = new ChancePrograms();
        due("4: the first", x.put(DRAW, 0, 0), 0);
        x.put(DRAW, 3, 0);
        due("4: the second, behind a refused one", x.put(DRAW, 0, 0), 1);
        x.drop();
        due("4: the second again", x.put(FLIP, 1, 3), 1);
        x.clear();
        due("4: the first after clear()", x.put(LOOP, 0, 3), 0);
    }

    /** Promise 5: "blocks are then open as they were before it was put" */
    private static void dropBlocks() {
        String[] all = {"", "L", "I", "E", "LI", "IL", "LE", "EL", "LLI", "LIL", "IEL", "LLL", "EEI"};
        for (String blocks : all) {
            for (int kind = FLIP; kind <= END; kind++) {
                int any = kind;
                boolean takes = kind == KEEP || kind == IF;
                alike("5: kind " + kind + " put and dropped in '" + blocks + "'", x -> {
                    open(x, blocks);
                    if (takes) {
                        x.push(CONST, 1);
                    }
                    if (x.put(any, 0, 1) >= 0) {
                        x.drop();
                    } else if (takes) {
                        x.pop();
                    }
                }, x -> open(x, blocks));
            }
        }
        // All the way back, and to the same place again.
        alike("5: dropped to nothing", x -> {
            richOf(x, 24);
            for (int n = 0; n < 24; n++) {
                x.drop();
            }
            x.pop();
            x.pop();
        }, NOTHING);
        for (int length = 0; length <= 10; length++) {
            int left = length;
            alike("5: dropped to " + length, x -> richOf(x, left), x -> richUpTo(x, left));
        }
    }

    /** The first statements of the rich program, put without any drop. */
    private static void richUpTo(ChancePrograms x, int length) {
        Build[] steps = {
            y -> y.put(DRAW, 0, 0), y -> y.put(FLIP, 1, 5), Edges::keepSum, y -> y.put(LOOP, 0, 2),
            y -> y.put(FLIP, 2, 9), y -> putOnVariable(y, IF, 0, 2), y -> y.put(BREAK, 0, 0),
            y -> y.put(ELSE, 0, 0), y -> putCount(y, 0), y -> y.put(END, 0, 0)};
        for (int n = 0; n < length; n++) {
            steps[n].on(x);
        }
        x.push(VAR, 1);
        x.push(CONST, 2);
    }

    /** Promise 5: "its expression is gone" */
    private static void dropExpression() {
        int[] takers = {SET, KEEP, IF};
        for (int kind : takers) {
            ChancePrograms x = new ChancePrograms();
            putOnValue(x, kind, 0, 3);
            due("5: drop() of kind " + kind, x.drop(), 0);
            due("5: its expression is gone", x.pop(), -1);
            alike("5: kind " + kind + " dropped above others", y -> {
                rich(y);
                putOnVariable(y, kind, 1, 2);
                y.drop();
            }, Edges::rich);
            alike("5: the expression of kind " + kind + " was one of six", y -> {
                sixExpressions(y);
                y.put(kind, 0, 0);
                y.drop();
            }, y -> {
                sixExpressions(y);
                y.pop();
            });
        }
    }

    /** Promise 5: "There is none: -1. Else answers how many are left." */
    private static void dropNone() {
        refused("5: drop() of a new object", NOTHING, ChancePrograms::drop, -1);
        refused("5: drop() with expressions alone", Edges::sixExpressions, ChancePrograms::drop, -1);
        ChancePrograms x = new ChancePrograms();
        bareOf24(x);
        for (int left = 23; left >= 0; left--) {
            due("5: drop()", x.drop(), left);
        }
        due("5: drop() of none", x.drop(), -1);
        due("5: put() after it", x.put(DRAW, 0, 0), 0);
        refused("5: drop() after clear()", y -> {
            rich(y);
            y.clear();
        }, ChancePrograms::drop, -1);
    }

    /** Promise 6: "Takes all statements and all expressions away." */
    private static void clear() {
        Build[] builds = {
            NOTHING, Edges::rich, Edges::bareOf24, Edges::sixExpressions, Edges::noneKept,
            x -> richOf(x, 24), x -> open(x, "LIL"), x -> open(x, "EEE")};
        for (Build build : builds) {
            alike("6: clear()", x -> {
                build.on(x);
                x.clear();
            }, NOTHING);
            alike("6: clear() after questions, and twice", x -> {
                build.on(x);
                x.weight();
                x.likely(0);
                x.clear();
                x.clear();
            }, NOTHING);
            alike("6: the same program after clear()", x -> {
                rich(x);
                x.clear();
                build.on(x);
            }, build);
        }
    }

    /** Promise 7: "There is no statement i, or it is no FLIP: -1" */
    private static void tuneNoFlip() {
        refused("7: tune(0, 8) of nothing", NOTHING, x -> x.tune(0, 8), -1);
        int[] none = {-1, 10, 11, 23, 24, 26, 27};
        for (int i : none) {
            refused("7: tune(" + i + ", 8)", Edges::rich, x -> x.tune(i, 8), -1);
        }
        for (int i : FAR_OUT) {
            refused("7: tune(" + i + ", 8)", Edges::rich, x -> x.tune(i, 8), -1);
        }
        int[] noFlips = {0, 2, 3, 5, 6, 7, 8, 9};
        for (int i : noFlips) {
            refused("7: tune(" + i + ", 3), no FLIP", Edges::rich, x -> x.tune(i, 3), -1);
        }
        refused("7: tune() of a FLIP that was dropped", x -> {
            x.put(FLIP, 0, 3);
            x.put(FLIP, 0, 5);
            x.drop();
        }, x -> x.tune(1, 8), -1);
        refused("7: tune() of a FLIP that was cleared", x -> {
            x.put(FLIP, 0, 3);
            x.clear();
        }, x -> x.tune(0, 8), -1);
    }

    /** Promise 7: "p is not 0 to 16: -2" */
    private static void tuneP() {
        refused("7: tune(1, -1)", Edges::rich, x -> x.tune(1, -1), -2);
        refused("7: tune(1, 17)", Edges::rich, x -> x.tune(1, 17), -2);
        refused("7: tune(4, -1)", Edges::rich, x -> x.tune(4, -1), -2);
        refused("7: tune(4, 17)", Edges::rich, x -> x.tune(4, 17), -2);
        for (int p : FAR_OUT) {
            refused("7: tune(1, " + p + ")", Edges::rich, x -> x.tune(1, p), -2);
        }
    }

    /** "The tests of a call are made in the order in which they are named": tune */
    private static void tuneOrder() {
        int[] wrong = {-1, 17, Integer.MIN_VALUE, Integer.MAX_VALUE};
        for (int p : wrong) {
            refused("7: no statement, p " + p, Edges::rich, x -> x.tune(10, p), -1);
            refused("7: no statement below, p " + p, Edges::rich, x -> x.tune(-1, p), -1);
            refused("7: no FLIP, p " + p, Edges::rich, x -> x.tune(0, p), -1);
            refused("7: nothing, p " + p, NOTHING, x -> x.tune(0, p), -1);
        }
    }

    /** Promise 7: "Gives the FLIP with number i another p. ... Else answers the p it had." */
    private static void tuneTaken() {
        for (int p = 0; p <= 16; p++) {
            int other = p;
            ChancePrograms x = new ChancePrograms();
            rich(x);
            due("7: tune(1, " + p + ")", x.tune(1, p), 5);
            due("7: tune(1, 5) after " + p, x.tune(1, 5), p);
            alike("7: FLIP tuned to " + p, y -> {
                y.put(FLIP, 0, 5);
                y.put(FLIP, 1, 5);
                y.tune(1, other);
            }, y -> {
                y.put(FLIP, 0, 5);
                y.put(FLIP, 1, other);
            });
        }
        ChancePrograms x = new ChancePrograms();
        for (int n = 0; n < 24; n++) {
            x.put(FLIP, 0, n % 17);
        }
        due("7: the first of 24", x.tune(0, 9), 0);
        due("7: the last of 24", x.tune(23, 9), 6);
        due("7: the same p again", x.tune(23, 9), 9);
        due("7: none behind the last", x.tune(24, 9), -1);
        alike("7: tuned to the p it had", y -> {
            rich(y);
            y.tune(4, 9);
        }, Edges::rich);
    }

    /** Promise 8: "How many statements there are": none, and 24 */
    private static void statements() {
        ChancePrograms x = new ChancePrograms();
        due("8: none", x.statements(), 0);
        sixExpressions(x);
        due("8: none, but six expressions", x.statements(), 0);
        for (int n = 1; n <= 24; n++) {
            x.put(FLIP, 0, 1);
            due("8: statements()", x.statements(), n);
        }
        x.put(FLIP, 0, 1);
        due("8: a 25th was refused", x.statements(), 24);
        for (int n = 23; n >= 0; n--) {
            x.drop();
            due("8: statements() after drop()", x.statements(), n);
        }
        x.drop();
        due("8: a drop() of none was refused", x.statements(), 0);
        open(x, "LLL");
        due("8: open blocks have no END that counts", x.statements(), 3);
        x.weight();
        due("8: nor when they are carried out", x.statements(), 3);
        x.clear();
        due("8: statements() after clear()", x.statements(), 0);
    }
}
