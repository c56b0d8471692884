/** The boundary cases of promises 8 to 16: monad and dyad as calls, and the questions. */
public final class EdgesOfPromises8To16Test {
    private static final int LENGTH = RankAgreement.ERR_LENGTH;
    private static final int DOMAIN = RankAgreement.ERR_DOMAIN;
    private static final int INDEX = RankAgreement.ERR_INDEX;
    private static final int LIMIT = RankAgreement.ERR_LIMIT;
    private static final int ARG = RankAgreement.ERR_ARG;
    private static final int NEG = RankAgreement.NEG;
    private static final int IOTA = RankAgreement.IOTA;
    private static final int SHAPE = RankAgreement.SHAPE;
    private static final int REVERSE = RankAgreement.REVERSE;
    private static final int SUM = RankAgreement.SUM;
    private static final int RAVEL = RankAgreement.RAVEL;
    private static final int PLUS = RankAgreement.PLUS;
    private static final int MINUS = RankAgreement.MINUS;
    private static final int RESHAPE = RankAgreement.RESHAPE;
    private static final int TAKE = RankAgreement.TAKE;
    private static final int FROM = RankAgreement.FROM;
    private static final int LOW = Integer.MIN_VALUE;
    private static final int HIGH = Integer.MAX_VALUE;
    private static final int[] NO_REGISTERS = {-1, 4, 5, -4, LOW, HIGH};
    private static final int[][] SHAPES = {
        {}, {0}, {1}, {8}, {0, 8}, {8, 0}, {2, 4}, {8, 8, 0}, {0, 8, 8}, {2, 2, 2}, {1, 1, 8}
    };

    private static final Bench BENCH = new Bench();

    public static void main(String[] args) {
        monadVerbs();
        monadRegisters();
        monadRank();
        monadErrors();
        monadDestinations();
        monadLeavesTheRest();
        dyadVerbs();
        dyadRegisters();
        dyadRanks();
        dyadErrors();
        dyadDestinations();
        dyadLeavesTheRest();
        rank();
        dim();
        count();
        atom();
        fill();
        rankSetting();
        declaredRanks();
        declaredRanksOfOthers();
        questionsChangeNothing();
        BENCH.finish();
    }

    private static int[] s(int... axes) {
        return axes;
    }

    // ---- Promise 8 ----

    private static void monadArg(int verb, int y, int dst) {
        String call = "monad(" + verb + ", " + y + ", " + dst + ")";
        int[] before = BENCH.state();
        BENCH.due(call, BENCH.engine.monad(verb, y, dst), ARG);
        BENCH.unchanged(call, before);
    }

    private static void monadVerbs() {
        BENCH.sentence("verb not in NEG..RAVEL (0..5): ERR_ARG");
        BENCH.begin(8);
        BENCH.y(s(2), 1, 2);
        for (int verb : new int[] {-1, LOW, 6, 7, 12, 13, 16, HIGH}) {
            monadArg(verb, Bench.Y, Bench.DST);
            monadArg(verb, -1, 4);
        }
        BENCH.monadGives("the first verb", 0, s(2), -1, -2);
        BENCH.monadGives("the last verb", 5, s(2), 1, 2);
    }

    private static void monadRegisters() {
        BENCH.sentence("y or dst outside 0..3: ERR_ARG");
        BENCH.begin(8);
        for (int verb = 0; verb <= 5; verb++) {
            for (int none : NO_REGISTERS) {
                monadArg(verb, none, 0);
                monadArg(verb, none, none);
                monadArg(verb, 0, none);
            }
        }
        // Looked at before the verb is applied: this y would be a DOMAIN error.
        BENCH.y(s(), -1);
        monadArg(IOTA, Bench.Y, 4);
        for (int y = 0; y < 4; y++) {
            for (int dst = 0; dst < 4; dst++) {
                Check.put(BENCH.engine, y, s(2), 7, 8);
                BENCH.due("reverse", BENCH.engine.monad(REVERSE, y, dst), 2);
                BENCH.holds("reverse", dst, s(2), 8, 7);
            }
        }
    }

    private static void monadRank() {
        BENCH.sentence("Then the answer is that of A(verb, array of y, r), with r = R if the override is active,"
                + " else the declared rank of verb.");
        BENCH.begin(8);
        BENCH.y(s(2, 2));
        BENCH.engine.clearRank();
        BENCH.monadGives("inactive", RAVEL, s(4), 0, 1, 2, 3);
        BENCH.engine.setRank(3, 0);
        BENCH.monadGives("active, 0", RAVEL, s(2, 2, 1), 0, 1, 2, 3);
        BENCH.engine.setRank(0, 1);
        BENCH.monadGives("active, 1", RAVEL, s(2, 2), 0, 1, 2, 3);
        BENCH.engine.setRank(0, HIGH);
        BENCH.monadGives("active, the highest", RAVEL, s(4), 0, 1, 2, 3);
        BENCH.engine.setRank(3, LOW);
        BENCH.monadGives("active, the lowest", RAVEL, s(2, 2, 1), 0, 1, 2, 3);
    }

    private static void monadErrors() {
        BENCH.sentence("monad: On an error the answer is its code and nothing changes: no register, not the fill"
                + " value, not the rank override.");
        for (int left : new int[] {0, LOW}) {
            BENCH.begin(8);
            BENCH.engine.setRank(left, 0);
            BENCH.y(s(3), 2, 1, -1);
            BENCH.monadRefused("the last atom is negative", IOTA, DOMAIN);
            BENCH.y(s(3), 2, 1, 9);
            BENCH.monadRefused("the last atom is too large", IOTA, LIMIT);
            BENCH.y(s(3), 2, 1, 3);
            BENCH.monadRefused("together too large", IOTA, LIMIT);
            BENCH.y(s(2, 2, 2));
            BENCH.monadRefused("four axes", SHAPE, LIMIT);
            BENCH.y(s(0, 8, 8));
            BENCH.engine.setRank(left, 3);
            BENCH.monadRefused("too large without atoms", SUM, LIMIT);
            // And the next call that is not refused is not disturbed.
            BENCH.monadGives("afterwards", SHAPE, s(3), 0, 8, 8);
        }
    }

    private static void monadDestinations() {
        BENCH.sentence("monad: Else dst (which may equal y) gets the result and the answer is its count (which"
                + " may be 0).");
        for (int reg = 0; reg < 4; reg++) {
            BENCH.begin(8);
            Check.put(BENCH.engine, reg, s(2, 2), 1, 2, 2, 0);
            ontoItself(reg, REVERSE, s(2, 2), 2, 0, 1, 2);
            ontoItself(reg, NEG, s(2, 2), -2, 0, -1, -2);
            ontoItself(reg, SUM, s(2), -3, -2);
            ontoItself(reg, NEG, s(2), 3, 2);
            ontoItself(reg, IOTA, s(2, 3), 0, 1, 2, 0, 1, -6);
            ontoItself(reg, RAVEL, s(6), 0, 1, 2, 0, 1, -6);
            ontoItself(reg, SHAPE, s(1), 6);
            ontoItself(reg, SUM, s(), 6);
            ontoItself(reg, SHAPE, s(0));
            ontoItself(reg, RAVEL, s(0));
            ontoItself(reg, SUM, s(), 0);
            ontoItself(reg, IOTA, s(0));
        }
    }

    private static void ontoItself(int reg, int verb, int[] shape, int... atoms) {
        int[] before = BENCH.state();
        BENCH.due("verb " + verb, BENCH.engine.monad(verb, reg, reg), atoms.length);
        BENCH.holds("verb " + verb, reg, shape, atoms);
        BENCH.onlyChanged("verb " + verb, reg, before);
    }

    private static void monadLeavesTheRest() {
        BENCH.sentence("monad: Only dst changes; the fill value and the rank override never change through this"
                + " call.");
        for (int[] shape : SHAPES) {
            for (int dst = 0; dst < 4; dst++) {
                for (int verb = 0; verb <= 5; verb++) {
                    BENCH.begin(8);
                    BENCH.x(s(8));
                    BENCH.y(shape);
                    BENCH.engine.setRank(LOW, 2);
                    int[] before = BENCH.state();
                    BENCH.engine.monad(verb, Bench.Y, dst);
                    BENCH.onlyChanged("verb " + verb, dst, before);
                }
            }
        }
    }

    // ---- Promise 9 ----

    private static void dyadArg(int verb, int x, int y, int dst) {
        String call = "dyad(" + verb + ", " + x + ", " + y + ", " + dst + ")";
        int[] before = BENCH.state();
        BENCH.due(call, BENCH.engine.dyad(verb, x, y, dst), ARG);
        BENCH.unchanged(call, before);
    }

    private static void dyadVerbs() {
        BENCH.sentence("verb not in PLUS..FROM (6..12): ERR_ARG");
        BENCH.begin(8);
        BENCH.x(s(), 1);
        BENCH.y(s(2), 7, 8);
        for (int verb : new int[] {5, 0, -1, LOW, 13, 14, 32, HIGH}) {
            dyadArg(verb, Bench.X, Bench.Y, Bench.DST);
            dyadArg(verb, -1, 4, 4);
        }
        BENCH.dyadGives("the first verb", 6, s(2), 8, 9);
        BENCH.dyadGives("the last verb", 12, s(), 8);
    }

    private static void dyadRegisters() {
        BENCH.sentence("x, y or dst outside 0..3: ERR_ARG");
        BENCH.begin(8);
        for (int verb = 6; verb <= 12; verb++) {
            for (int none : NO_REGISTERS) {
                dyadArg(verb, none, 0, 0);
                dyadArg(verb, 0, none, 0);
                dyadArg(verb, 0, 0, none);
                dyadArg(verb, none, none, none);
            }
        }
        // Looked at before the verb is applied: these two would be a LENGTH error.
        BENCH.x(s(2));
        BENCH.y(s(3));
        dyadArg(PLUS, Bench.X, Bench.Y, 4);
        for (int x = 0; x < 4; x++) {
            for (int y = 0; y < 4; y++) {
                for (int dst = 0; dst < 4; dst++) {
                    Check.put(BENCH.engine, x, s(), 7);
                    Check.put(BENCH.engine, y, s(), 5);
                    BENCH.due("minus", BENCH.engine.dyad(MINUS, x, y, dst), 1);
                    BENCH.holds("minus", dst, s(), x == y ? 0 : 2);
                }
            }
        }
    }

    private static void dyadRanks() {
        BENCH.sentence("Then A(verb, array of x, array of y, l, r) with l, r = L, R if the override is active,"
                + " else the declared ranks of verb (x may equal y).");
        BENCH.begin(16);
        BENCH.x(s(2), 1, 2);
        BENCH.y(s(2), 5, 6);
        BENCH.dyadGives("inactive", TAKE, s(2, 2), 5, -6, 5, 6);
        BENCH.dyadGives("inactive", RESHAPE, s(1, 2), 5, 6);
        BENCH.engine.setRank(0, 0);
        BENCH.dyadGives("active, 0 0", TAKE, s(2, 2), 5, -6, 6, -6);
        BENCH.dyadGives("active, 0 0", RESHAPE, s(2, 2), 5, -6, 6, 6);
        BENCH.engine.setRank(HIGH, LOW);
        BENCH.dyadGives("active, wild", PLUS, s(2, 2), 6, 7, 7, 8);
        BENCH.engine.setRank(LOW, HIGH);
        BENCH.dyadGives("active, wild", PLUS, s(2, 2), 6, 7, 7, 8);
        BENCH.dyadGives("active, wild", MINUS, s(2, 2), -4, -5, -3, -4);
        Check.put(BENCH.engine, 0, s(3), 2, 0, 1);
        BENCH.engine.clearRank();
        BENCH.due("x is y", BENCH.engine.dyad(FROM, 0, 0, 1), 3);
        BENCH.holds("x is y", 1, s(3), 1, 2, 0);
        BENCH.holds("x is y", 0, s(3), 2, 0, 1);
        BENCH.engine.setRank(0, 1);
        BENCH.due("x is y, other ranks", BENCH.engine.dyad(MINUS, 0, 0, 1), 9);
        BENCH.holds("x is y, other ranks", 1, s(3, 3), 0, 2, 1, -2, 0, -1, -1, 1, 0);
    }

    private static void dyadErrors() {
        BENCH.sentence("dyad: On an error the answer is its code and nothing changes: no register, not the fill"
                + " value, not the rank override.");
        BENCH.begin(8);
        BENCH.engine.setRank(0, 3);
        BENCH.x(s(3), 1, 0, 9);
        BENCH.y(s(2), 7, 8);
        BENCH.dyadRefused("the last one is too large", TAKE, LIMIT);
        BENCH.dyadRefused("the last one is outside", FROM, INDEX);
        BENCH.x(s(3), 1, 0, -1);
        BENCH.dyadRefused("the last one is negative", RESHAPE, DOMAIN);
        BENCH.x(s(3), 1, 0, 3);
        BENCH.dyadRefused("together too large", TAKE, LIMIT);
        BENCH.engine.setRank(0, 0);
        BENCH.dyadRefused("frames that do not agree", PLUS, LENGTH);
        BENCH.x(s(2, 2));
        BENCH.y(s(3, 2));
        BENCH.engine.setRank(HIGH, 1);
        BENCH.dyadRefused("three tables of four", PLUS, LIMIT);
        BENCH.y(s(2, 3));
        BENCH.dyadRefused("cells that do not agree", PLUS, LENGTH);
        BENCH.y(s(2), 7, 8);
        BENCH.dyadGives("afterwards", PLUS, s(2, 2), 7, 8, 10, 11);
    }

    private static void dyadDestinations() {
        BENCH.sentence("dyad: Else dst (which may equal x or y) gets the result and the answer is its count"
                + " (which may be 0).");
        for (int dst = 0; dst < 4; dst++) {
            BENCH.begin(8);
            into(dst, s(2), s(2, 2), PLUS, s(2, 2), 0, 1, 3, 4);
            into(dst, s(2, 2), s(2), MINUS, s(2, 2), 0, 1, 1, 2);
            into(dst, s(2), s(3), RESHAPE, s(0, 1));
            into(dst, s(3), s(2), TAKE, s(3, 2), -6, -6, 0, -6, 0, 1);
            into(dst, s(2), s(2, 2), FROM, s(2, 2), 0, 1, 2, 3);
            into(dst, s(0), s(), PLUS, s(0));
            into(dst, s(), s(8), TAKE, s(0));
            into(dst, s(), s(8), FROM, s(), 0);
        }
        BENCH.begin(8);
        BENCH.x(s(2), 1, 0);
        BENCH.due("all three the same", BENCH.engine.dyad(FROM, 0, 0, 0), 2);
        BENCH.holds("all three the same", 0, s(2), 0, 1);
        BENCH.engine.setRank(0, 1);
        BENCH.due("all three the same", BENCH.engine.dyad(MINUS, 0, 0, 0), 4);
        BENCH.holds("all three the same", 0, s(2, 2), 0, -1, 1, 0);
    }

    private static void into(int dst, int[] xShape, int[] yShape, int verb, int[] shape, int... atoms) {
        BENCH.x(xShape);
        BENCH.y(yShape);
        int[] before = BENCH.state();
        BENCH.due("verb " + verb, BENCH.engine.dyad(verb, Bench.X, Bench.Y, dst), atoms.length);
        BENCH.holds("verb " + verb, dst, shape, atoms);
        BENCH.onlyChanged("verb " + verb, dst, before);
    }

    private static void dyadLeavesTheRest() {
        BENCH.sentence("dyad: Only dst changes; the fill value and the rank override never change through this"
                + " call.");
        for (int[] xShape : SHAPES) {
            for (int[] yShape : SHAPES) {
                for (int verb = 6; verb <= 12; verb++) {
                    for (int dst = 0; dst < 4; dst++) {
                        BENCH.begin(8);
                        BENCH.x(xShape);
                        BENCH.y(yShape);
                        BENCH.engine.setRank(1, HIGH);
                        int[] before = BENCH.state();
                        BENCH.engine.dyad(verb, Bench.X, Bench.Y, dst);
                        BENCH.onlyChanged("verb " + verb, dst, before);
                    }
                }
            }
        }
    }

    // ---- Promises 10 to 13 ----

    private static void rank() {
        BENCH.sentence("rank(reg): the rank of reg's array (0..3); -1 if reg is outside 0..3.");
        BENCH.begin(8);
        for (int reg = 0; reg < 4; reg++) {
            for (int[] shape : SHAPES) {
                Check.put(BENCH.engine, reg, shape);
                BENCH.due("rank(" + reg + ")", BENCH.engine.rank(reg), shape.length);
            }
        }
        for (int none : NO_REGISTERS) {
            BENCH.due("rank(" + none + ")", BENCH.engine.rank(none), -1);
        }
    }

    private static void dim() {
        BENCH.sentence("the length of axis number axis of reg's array; -1 if reg is outside 0..3 or axis is outside"
                + " 0..rank-1 (so always -1 for a rank 0 array)");
        BENCH.begin(8);
        for (int reg = 0; reg < 4; reg++) {
            for (int[] shape : SHAPES) {
                // The axes of an older array are gone.
                Check.put(BENCH.engine, reg, s(1, 2, 3));
                Check.put(BENCH.engine, reg, shape);
                for (int axis = 0; axis < shape.length; axis++) {
                    BENCH.due("dim(" + reg + ", " + axis + ")", BENCH.engine.dim(reg, axis), shape[axis]);
                }
                for (int axis : new int[] {-1, shape.length, shape.length + 1, 3, LOW, HIGH}) {
                    BENCH.due("dim(" + reg + ", " + axis + ")", BENCH.engine.dim(reg, axis), -1);
                }
            }
            Check.put(BENCH.engine, reg, s(1, 2, 3));
            BENCH.engine.scalar(reg, 4);
            BENCH.due("dim of a scalar", BENCH.engine.dim(reg, 0), -1);
        }
        Check.put(BENCH.engine, 0, s(2, 2, 2));
        Check.put(BENCH.engine, 3, s(2, 2, 2));
        for (int none : NO_REGISTERS) {
            for (int axis : new int[] {0, 2, -1, 3}) {
                BENCH.due("dim(" + none + ", " + axis + ")", BENCH.engine.dim(none, axis), -1);
            }
        }
    }

    private static void count() {
        BENCH.sentence("the atom count of reg's array (1 for rank 0, possibly 0); -1 if reg is outside 0..3");
        BENCH.begin(8);
        int[] counts = {1, 0, 1, 8, 0, 0, 8, 0, 0, 8, 8};
        for (int reg = 0; reg < 4; reg++) {
            for (int i = 0; i < SHAPES.length; i++) {
                Check.put(BENCH.engine, reg, SHAPES[i]);
                BENCH.due("count(" + reg + ")", BENCH.engine.count(reg), counts[i]);
            }
            BENCH.engine.scalar(reg, 0);
            BENCH.due("count of a scalar", BENCH.engine.count(reg), 1);
        }
        for (int none : NO_REGISTERS) {
            BENCH.due("count(" + none + ")", BENCH.engine.count(none), -1);
        }
    }

    private static void atom() {
        BENCH.sentence("atom number index of reg's array in row-major order; 0 if reg is outside 0..3 or index is"
                + " outside 0..count-1");
        BENCH.begin(8);
        for (int reg = 0; reg < 4; reg++) {
            for (int[] shape : SHAPES) {
                // The atoms of an older array are gone.
                Check.put(BENCH.engine, reg, s(8), Bench.repeated(55, 8));
                Check.put(BENCH.engine, reg, shape);
                int count = BENCH.engine.count(reg);
                for (int i = 0; i < count; i++) {
                    BENCH.engine.set(reg, i, 900 + i);
                }
                for (int i = 0; i < count; i++) {
                    BENCH.due("atom(" + reg + ", " + i + ")", BENCH.engine.atom(reg, i), 900 + i);
                }
                for (int index : new int[] {-1, count, count + 1, 8, 31, 32, 33, LOW, HIGH}) {
                    BENCH.due("atom(" + reg + ", " + index + ")", BENCH.engine.atom(reg, index), 0);
                }
            }
        }
        for (int reg = 0; reg < 4; reg++) {
            Check.put(BENCH.engine, reg, s(8), Bench.repeated(55, 8));
        }
        for (int none : NO_REGISTERS) {
            for (int index : new int[] {0, 7, -1, 32, -32}) {
                BENCH.due("atom(" + none + ", " + index + ")", BENCH.engine.atom(none, index), 0);
            }
        }
    }

    // ---- Promises 14 to 16 ----

    private static void fill() {
        BENCH.sentence("fill(): the current fill value (0 at the start).");
        BENCH.engine = new RankAgreement(8);
        BENCH.due("at the start", BENCH.engine.fill(), 0);
        for (int value : new int[] {1, -1, LOW, HIGH, 0}) {
            BENCH.engine.setFill(value);
            BENCH.due("fill " + value, BENCH.engine.fill(), value);
        }
    }

    private static void rankSetting() {
        BENCH.sentence("side 0 gives 1 if the override is active, else 0; side 1 gives L; side 2 gives R; every"
                + " other side gives 0");
        BENCH.begin(8);
        BENCH.override("at the start", false, 0, 0);
        for (int[] pair : new int[][] {{0, 0}, {1, 2}, {-7, 9}, {LOW, HIGH}, {HIGH, LOW}}) {
            BENCH.engine.setRank(pair[0], pair[1]);
            BENCH.override("setRank", true, pair[0], pair[1]);
            for (int side : new int[] {-1, 3, 4, LOW, HIGH}) {
                BENCH.due("rankSetting(" + side + ")", BENCH.engine.rankSetting(side), 0);
            }
        }
        BENCH.engine.clearRank();
        for (int side : new int[] {-1, 0, 1, 2, 3, LOW, HIGH}) {
            BENCH.due("rankSetting(" + side + ") after clearRank", BENCH.engine.rankSetting(side), 0);
        }
    }

    private static void declaredRanks() {
        BENCH.sentence("the declared rank of verb, for monads NEG..RAVEL with side 0, and for dyads PLUS..FROM"
                + " with side 1 (left) or side 2 (right), as listed above");
        BENCH.begin(8);
        int[] monads = {0, 0, 3, 3, 3, 3};
        int[] lefts = {0, 0, 0, 0, 1, 0, 0};
        int[] rights = {0, 0, 0, 0, 3, 3, 3};
        for (int turn = 0; turn < 3; turn++) {
            for (int verb = 0; verb <= 5; verb++) {
                BENCH.due("monad " + verb, BENCH.engine.declaredRank(verb, 0), monads[verb]);
            }
            for (int verb = 6; verb <= 12; verb++) {
                BENCH.due("dyad " + verb + " left", BENCH.engine.declaredRank(verb, 1), lefts[verb - 6]);
                BENCH.due("dyad " + verb + " right", BENCH.engine.declaredRank(verb, 2), rights[verb - 6]);
            }
            // What is declared does not follow the override.
            BENCH.engine.setRank(turn == 0 ? 2 : LOW, turn == 0 ? 1 : HIGH);
        }
    }

    private static void declaredRanksOfOthers() {
        BENCH.sentence("For any other verb, or any other side (including side 1 or 2 with a monad and side 0 with"
                + " a dyad), the answer is -1.");
        BENCH.begin(8);
        for (int verb : new int[] {-1, -2, LOW, 13, 14, HIGH}) {
            for (int side : new int[] {-1, 0, 1, 2, 3, LOW, HIGH}) {
                BENCH.due("verb " + verb + " side " + side, BENCH.engine.declaredRank(verb, side), -1);
            }
        }
        for (int verb = 0; verb <= 5; verb++) {
            for (int side : new int[] {-1, 1, 2, 3, LOW, HIGH}) {
                BENCH.due("monad " + verb + " side " + side, BENCH.engine.declaredRank(verb, side), -1);
            }
        }
        for (int verb = 6; verb <= 12; verb++) {
            for (int side : new int[] {-1, 0, 3, 4, LOW, HIGH}) {
                BENCH.due("dyad " + verb + " side " + side, BENCH.engine.declaredRank(verb, side), -1);
            }
        }
    }

    private static void questionsChangeNothing() {
        String[] questions = {"rank", "dim", "count", "atom", "fill", "rankSetting", "declaredRank"};
        int[] numbers = {LOW, -33, -1, 0, 1, 2, 3, 4, 5, 6, 7, 12, 13, 32, HIGH};
        for (int question = 0; question < questions.length; question++) {
            BENCH.sentence(questions[question] + ": Nothing changes.");
            BENCH.begin(8);
            BENCH.x(s(2, 2, 2));
            BENCH.y(s(0, 8, 8));
            BENCH.engine.setRank(-2, 5);
            int[] before = BENCH.state();
            for (int one : numbers) {
                for (int other : numbers) {
                    ask(question, one, other);
                }
                BENCH.unchanged(questions[question], before);
            }
        }
    }

    private static void ask(int question, int one, int other) {
        switch (question) {
            case 0 -> BENCH.engine.rank(one);
            case 1 -> BENCH.engine.dim(one, other);
            case 2 -> BENCH.engine.count(one);
            case 3 -> BENCH.engine.atom(one, other);
            case 4 -> BENCH.engine.fill();
            case 5 -> BENCH.engine.rankSetting(one);
            default -> BENCH.engine.declaredRank(one, other);
        }
    }
}
