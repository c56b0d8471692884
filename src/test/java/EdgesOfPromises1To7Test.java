/** The boundary cases of promises 1 to 7: construction, and the calls that store and set. */
public final class EdgesOfPromises1To7Test {
    private static final int LIMIT = RankAgreement.ERR_LIMIT;
    private static final int ARG = RankAgreement.ERR_ARG;
    private static final int INDEX = RankAgreement.ERR_INDEX;
    private static final int IOTA = RankAgreement.IOTA;
    private static final int SUM = RankAgreement.SUM;
    private static final int NEG = RankAgreement.NEG;
    private static final int PLUS = RankAgreement.PLUS;
    private static final int RESHAPE = RankAgreement.RESHAPE;
    private static final int TAKE = RankAgreement.TAKE;
    private static final int FROM = RankAgreement.FROM;
    private static final int LOW = Integer.MIN_VALUE;
    private static final int HIGH = Integer.MAX_VALUE;
    private static final int[] NO_REGISTERS = {-1, 4, 5, -4, LOW, HIGH};
    private static final int[] ANY_INTS = {0, 1, -1, 3, 4, -3, -4, 33, LOW, LOW + 1, HIGH - 1, HIGH};

    private static final Bench BENCH = new Bench();

    public static void main(String[] args) {
        anyCap();
        clampedCap();
        startingState();
        makeNoRegister();
        makeAbsent();
        makeSuffix();
        makeRank();
        makeAxisAboveCap();
        makeProductAboveCap();
        makeTestsInOrder();
        makeRefusalsChangeNothing();
        makeStores();
        makeLeavesTheRest();
        scalarNoRegister();
        scalarAnyInt();
        scalarLeavesTheRest();
        setOutside();
        setInside();
        setLeavesTheRest();
        fillAnyInt();
        fillLeavesTheRest();
        fillIsUsedLater();
        rankAnyInts();
        rankWhileActive();
        rankInsideCells();
        rankLeavesTheRest();
        clearWhateverWasBefore();
        clearLeavesTheRest();
        BENCH.finish();
    }

    private static int[] s(int... axes) {
        return axes;
    }

    // ---- Promise 1 ----

    private static void anyCap() {
        BENCH.sentence("RankAgreement(int cap) accepts any int.");
        for (int cap : ANY_INTS) {
            RankAgreement engine = new RankAgreement(cap);
            BENCH.due("cap " + cap, engine.make(0, 8, -1, -1), 8);
        }
    }

    private static void capIs(int given, int used) {
        BENCH.begin(given);
        BENCH.makeGives(0, used, -1, -1, used);
        BENCH.makeRefused(LIMIT, 0, used + 1, -1, -1);
        BENCH.makeGives(0, 0, used, -1, 0, used);
        BENCH.makeRefused(LIMIT, 0, 0, used + 1, -1);
        BENCH.y(s(), used);
        BENCH.monadGives("iota of the cap", IOTA, s(used), Bench.counting(used));
        BENCH.y(s(), used + 1);
        BENCH.monadRefused("iota above the cap", IOTA, LIMIT);
    }

    private static void clampedCap() {
        BENCH.sentence("cap is the atom limit and the axis limit; it is clamped: below MIN_CAP it becomes MIN_CAP,"
                + " above MAX_CAP it becomes MAX_CAP, otherwise it is used as given.");
        for (int below : new int[] {7, 1, 0, -1, -8, -32, LOW}) {
            capIs(below, 8);
        }
        for (int given = 8; given <= 32; given++) {
            capIs(given, given);
        }
        for (int above : new int[] {33, 40, 64, 65536, HIGH}) {
            capIs(above, 32);
        }
    }

    private static void startingState() {
        BENCH.sentence("Afterwards each of the REGS = 4 registers 0..3 holds the rank 0 array holding 0 (rank 0,"
                + " count 1, atom 0 equal to 0); the fill value is 0; the rank override is inactive with L = 0"
                + " and R = 0.");
        for (int cap : new int[] {LOW, 0, 7, 8, 20, 32, 33, HIGH}) {
            BENCH.engine = new RankAgreement(cap);
            for (int reg = 0; reg < 4; reg++) {
                BENCH.holds("cap " + cap, reg, s(), 0);
            }
            BENCH.due("fill", BENCH.engine.fill(), 0);
            BENCH.override("override", false, 0, 0);
        }
    }

    // ---- Promise 2 ----

    private static void makeNoRegister() {
        BENCH.sentence("reg outside 0..3: answer ERR_ARG.");
        BENCH.begin(8);
        for (int reg : NO_REGISTERS) {
            BENCH.makeRefused(ARG, reg, 2, -1, -1);
            BENCH.makeRefused(ARG, reg, -1, -1, -1);
        }
        BENCH.makeGives(0, 2, -1, -1, 2);
        BENCH.makeGives(3, 2, -1, -1, 2);
    }

    private static void makeAbsent() {
        BENCH.sentence("An argument among d0, d1, d2 is ABSENT when negative.");
        BENCH.begin(8);
        for (int absent : new int[] {-1, -2, -9, -HIGH, LOW}) {
            BENCH.makeGives(1, absent, absent, absent);
            BENCH.makeGives(1, 3, absent, absent, 3);
            BENCH.makeGives(1, 2, 3, absent, 2, 3);
            BENCH.makeGives(1, 0, 0, absent, 0, 0);
        }
        // 0 is not negative.
        BENCH.makeGives(1, 0, -1, -1, 0);
        BENCH.makeGives(1, 0, 0, 0, 0, 0, 0);
    }

    private static void makeSuffix() {
        BENCH.sentence("The absent ones must form a suffix of (d0, d1, d2) (so a present one never follows an absent"
                + " one), else ERR_ARG.");
        BENCH.begin(8);
        for (int absent : new int[] {-1, -2, LOW}) {
            for (int present : new int[] {0, 1, 8}) {
                BENCH.makeRefused(ARG, 0, absent, present, absent);
                BENCH.makeRefused(ARG, 0, absent, absent, present);
                BENCH.makeRefused(ARG, 0, absent, present, present);
                BENCH.makeRefused(ARG, 0, present, absent, present);
            }
        }
    }

    private static void makeRank() {
        BENCH.sentence("Rank = number of present ones.");
        BENCH.begin(8);
        BENCH.makeGives(2, -1, -1, -1);
        BENCH.makeGives(2, 1, -1, -1, 1);
        BENCH.makeGives(2, 1, 1, -1, 1, 1);
        BENCH.makeGives(2, 1, 1, 1, 1, 1, 1);
        BENCH.makeGives(2, 0, -1, -1, 0);
        BENCH.makeGives(2, 0, 0, -1, 0, 0);
        BENCH.makeGives(2, 0, 0, 0, 0, 0, 0);
    }

    private static void makeAxisAboveCap() {
        BENCH.sentence("Any present one > cap: ERR_LIMIT.");
        for (int cap : new int[] {8, 20, 32}) {
            BENCH.begin(cap);
            for (int above : new int[] {cap + 1, 65536, HIGH}) {
                BENCH.makeRefused(LIMIT, 0, above, -1, -1);
                BENCH.makeRefused(LIMIT, 0, 1, above, -1);
                BENCH.makeRefused(LIMIT, 0, 1, 1, above);
                BENCH.makeRefused(LIMIT, 0, 0, above, -1);
                BENCH.makeRefused(LIMIT, 0, above, 0, -1);
                BENCH.makeRefused(LIMIT, 0, 0, 0, above);
                BENCH.makeRefused(LIMIT, 0, above, above, above);
            }
            BENCH.makeRefused(LIMIT, 0, 2048, 2048, 1024);
            BENCH.makeGives(0, cap, -1, -1, cap);
            BENCH.makeGives(0, cap, 0, cap, cap, 0, cap);
        }
    }

    private static void makeProductAboveCap() {
        BENCH.sentence("Product of the present ones > cap: ERR_LIMIT.");
        BENCH.begin(8);
        BENCH.makeGives(0, 2, 4, -1, 2, 4);
        BENCH.makeGives(0, 2, 2, 2, 2, 2, 2);
        BENCH.makeGives(0, 8, 1, 1, 8, 1, 1);
        BENCH.makeGives(0, 8, 8, 0, 8, 8, 0);
        BENCH.makeRefused(LIMIT, 0, 3, 3, -1);
        BENCH.makeRefused(LIMIT, 0, 8, 2, -1);
        BENCH.makeRefused(LIMIT, 0, 2, 2, 3);
        BENCH.makeRefused(LIMIT, 0, 8, 8, 8);
        BENCH.begin(32);
        BENCH.makeGives(0, 4, 8, -1, 4, 8);
        BENCH.makeGives(0, 2, 4, 4, 2, 4, 4);
        BENCH.makeRefused(LIMIT, 0, 3, 11, -1);
        BENCH.makeRefused(LIMIT, 0, 32, 32, 32);
        BENCH.makeRefused(LIMIT, 0, 32, 32, -1);
    }

    private static void makeTestsInOrder() {
        BENCH.sentence("make(reg, d0, d1, d2) tests in this order:");
        BENCH.begin(8);
        BENCH.makeRefused(ARG, 4, 9, -1, -1);
        BENCH.makeRefused(ARG, -1, 8, 8, 8);
        BENCH.makeRefused(ARG, 0, 9, -1, 1);
        BENCH.makeRefused(ARG, 0, -1, 9, -1);
        BENCH.makeRefused(ARG, 0, -1, 8, 8);
    }

    private static void makeRefusalsChangeNothing() {
        BENCH.sentence("Refusals change nothing.");
        BENCH.begin(8);
        BENCH.engine.setRank(-2, 7);
        for (int reg = 0; reg < 4; reg++) {
            Check.put(BENCH.engine, reg, s(2, 2, 2), 9, 8, 7, 6, 5, 4, 3, 2);
        }
        for (int reg = 0; reg < 4; reg++) {
            BENCH.makeRefused(ARG, reg, 1, -1, 1);
            BENCH.makeRefused(LIMIT, reg, 9, -1, -1);
            BENCH.makeRefused(LIMIT, reg, 3, 3, -1);
        }
        BENCH.makeRefused(ARG, 4, 1, -1, -1);
        BENCH.makeRefused(ARG, -1, 1, -1, -1);
    }

    private static void makeStores() {
        BENCH.sentence("Otherwise reg gets the array of that shape (the present ones in order; rank 0 with shape"
                + " [] when all are absent) with atom i = i for every i, and the answer is its count (1 for rank"
                + " 0; 0 when some present one is 0).");
        BENCH.begin(32);
        for (int reg = 0; reg < 4; reg++) {
            BENCH.makeGives(reg, 32, -1, -1, 32);
            BENCH.makeGives(reg, -1, -1, -1);
            BENCH.makeGives(reg, 1, -1, -1, 1);
            BENCH.makeGives(reg, 2, 3, 4, 2, 3, 4);
            BENCH.makeGives(reg, 0, -1, -1, 0);
            BENCH.makeGives(reg, 3, 0, -1, 3, 0);
            BENCH.makeGives(reg, 0, 3, -1, 0, 3);
            BENCH.makeGives(reg, 32, 32, 0, 32, 32, 0);
            BENCH.makeGives(reg, 0, 32, 32, 0, 32, 32);
            BENCH.makeGives(reg, 32, 0, 32, 32, 0, 32);
            BENCH.makeGives(reg, 3, 1, 2, 3, 1, 2);
        }
    }

    private static void makeLeavesTheRest() {
        BENCH.sentence("make: Other registers, the fill value and the rank override do not change.");
        BENCH.begin(32);
        BENCH.engine.setRank(LOW, HIGH);
        for (int reg = 0; reg < 4; reg++) {
            Check.put(BENCH.engine, reg, s(32), Bench.repeated(100 + reg, 32));
        }
        for (int reg = 0; reg < 4; reg++) {
            BENCH.makeGives(reg, 32, -1, -1, 32);
            BENCH.makeGives(reg, 0, -1, -1, 0);
            BENCH.makeGives(reg, 4, 8, -1, 4, 8);
        }
    }

    // ---- Promise 3 ----

    private static void scalarNoRegister() {
        BENCH.sentence("if reg is outside 0..3 the answer is false and nothing changes");
        BENCH.begin(8);
        BENCH.engine.setRank(1, 2);
        for (int reg : NO_REGISTERS) {
            int[] before = BENCH.state();
            BENCH.due("scalar(" + reg + ", 5)", BENCH.engine.scalar(reg, 5), false);
            BENCH.unchanged("scalar(" + reg + ", 5)", before);
        }
    }

    private static void scalarAnyInt() {
        BENCH.sentence("Else reg becomes the rank 0 array holding value (any int) and the answer is true.");
        BENCH.begin(8);
        for (int reg = 0; reg < 4; reg++) {
            for (int value : ANY_INTS) {
                BENCH.due("scalar", BENCH.engine.scalar(reg, value), true);
                BENCH.holds("scalar", reg, s(), value);
            }
            for (int[] shape : new int[][] {s(0), s(8), s(2, 2, 2), s(8, 8, 0)}) {
                Check.put(BENCH.engine, reg, shape);
                BENCH.due("scalar over an array", BENCH.engine.scalar(reg, 77), true);
                BENCH.holds("scalar over an array", reg, s(), 77);
            }
        }
    }

    private static void scalarLeavesTheRest() {
        BENCH.sentence("scalar: Nothing else changes.");
        BENCH.begin(32);
        BENCH.engine.setRank(-1, 2);
        for (int reg = 0; reg < 4; reg++) {
            Check.put(BENCH.engine, reg, s(32));
        }
        for (int reg = 0; reg < 4; reg++) {
            int[] before = BENCH.state();
            BENCH.engine.scalar(reg, 5);
            BENCH.onlyChanged("scalar", reg, before);
        }
    }

    // ---- Promise 4 ----

    private static void setRefused(int reg, int index) {
        String call = "set(" + reg + ", " + index + ", 99)";
        int[] before = BENCH.state();
        BENCH.due(call, BENCH.engine.set(reg, index, 99), false);
        BENCH.unchanged(call, before);
    }

    private static void setOutside() {
        BENCH.sentence("if reg is outside 0..3, or index is outside 0..count-1 of reg's array (always the case for an"
                + " array with count 0), the answer is false and nothing changes");
        BENCH.begin(8);
        BENCH.engine.setRank(1, 2);
        for (int reg : NO_REGISTERS) {
            setRefused(reg, 0);
        }
        for (int reg = 0; reg < 4; reg++) {
            for (int[] shape : new int[][] {s(), s(1), s(3), s(8), s(2, 3), s(2, 2, 2)}) {
                // Behind a shorter array lie the atoms of a longer one.
                Check.put(BENCH.engine, reg, s(8));
                Check.put(BENCH.engine, reg, shape);
                int count = BENCH.engine.count(reg);
                for (int index : new int[] {-1, -count, count, count + 1, 8, 32, LOW, HIGH}) {
                    setRefused(reg, index);
                }
            }
            for (int[] empty : new int[][] {s(0), s(0, 8), s(8, 0), s(8, 0, 8)}) {
                Check.put(BENCH.engine, reg, empty);
                for (int index : new int[] {0, 1, -1, 7, LOW, HIGH}) {
                    setRefused(reg, index);
                }
            }
        }
    }

    private static void setInside() {
        BENCH.sentence("Else atom index of reg becomes value, the shape is unchanged, and the answer is true.");
        BENCH.begin(32);
        for (int reg = 0; reg < 4; reg++) {
            for (int value : ANY_INTS) {
                Check.put(BENCH.engine, reg, s(), 5);
                BENCH.due("set of a scalar", BENCH.engine.set(reg, 0, value), true);
                BENCH.holds("set of a scalar", reg, s(), value);
                Check.put(BENCH.engine, reg, s(2, 1, 2));
                BENCH.due("set of the first", BENCH.engine.set(reg, 0, value), true);
                BENCH.due("set of the last", BENCH.engine.set(reg, 3, value), true);
                BENCH.holds("set of the first and the last", reg, s(2, 1, 2), value, 1, 2, value);
            }
            Check.put(BENCH.engine, reg, s(32));
            BENCH.due("set of atom 31", BENCH.engine.set(reg, 31, 500), true);
            BENCH.due("atom 31", BENCH.engine.atom(reg, 31), 500);
        }
    }

    private static void setLeavesTheRest() {
        BENCH.sentence("No other atom, register, the fill value or the rank override changes.");
        BENCH.begin(32);
        BENCH.engine.setRank(-1, 2);
        for (int reg = 0; reg < 4; reg++) {
            Check.put(BENCH.engine, reg, s(4, 8));
        }
        for (int reg = 0; reg < 4; reg++) {
            for (int index : new int[] {0, 15, 31}) {
                int[] before = BENCH.state();
                int[] atoms = new int[32];
                for (int i = 0; i < 32; i++) {
                    atoms[i] = i == index ? 500 : BENCH.engine.atom(reg, i);
                }
                BENCH.engine.set(reg, index, 500);
                BENCH.holds("set", reg, s(4, 8), atoms);
                BENCH.onlyChanged("set", reg, before);
            }
        }
    }

    // ---- Promise 5 ----

    private static void fillAnyInt() {
        BENCH.sentence("setFill(value): the fill value becomes value (any int).");
        BENCH.begin(8);
        for (int value : ANY_INTS) {
            BENCH.engine.setFill(value);
            BENCH.due("setFill(" + value + ")", BENCH.engine.fill(), value);
        }
    }

    private static void fillLeavesTheRest() {
        BENCH.sentence("Registers and the rank override do not change.");
        BENCH.begin(32);
        BENCH.engine.setRank(LOW, HIGH);
        // Arrays that hold the fill value do not follow it, and neither does one that was padded with it.
        BENCH.y(s(2), 1, 2);
        BENCH.engine.setRank(0, 0);
        BENCH.engine.monad(IOTA, Bench.Y, Bench.DST);
        Check.put(BENCH.engine, 3, s(2), -6, -6);
        for (int value : ANY_INTS) {
            BENCH.engine.setFill(value);
            BENCH.holds("setFill", Bench.Y, s(2), 1, 2);
            BENCH.holds("setFill", Bench.DST, s(2, 2), 0, -6, 0, 1);
            BENCH.holds("setFill", 3, s(2), -6, -6);
            BENCH.override("setFill", true, 0, 0);
        }
    }

    private static void fillIsUsedLater() {
        BENCH.sentence("The new fill value is used by every later application wherever the fill value is called"
                + " for.");
        BENCH.begin(8);
        for (int fill : new int[] {0, 5, -1, LOW, HIGH}) {
            BENCH.engine.setFill(fill);
            BENCH.y(s(2), 1, 2);
            BENCH.monadGives("padded cells", IOTA, s(2, 2), 0, fill, 0, 1);
            BENCH.y(s(1), 7);
            BENCH.x(s(), 2);
            BENCH.dyadGives("take of more", TAKE, s(2), 7, fill);
            BENCH.x(s(), -2);
            BENCH.dyadGives("take of more from the back", TAKE, s(2), fill, 7);
            BENCH.y(s(0));
            BENCH.x(s(), 2);
            BENCH.dyadGives("reshape of nothing", RESHAPE, s(2), fill, fill);
            boolean list = fill >= 0 && fill <= 8;
            BENCH.monadGives("a frame without positions", IOTA, list ? s(0, fill) : s(0));
        }
    }

    // ---- Promise 6 ----

    private static void rankAnyInts() {
        BENCH.sentence("the rank override becomes active with L = left and R = right (any ints, including"
                + " negative ones and ones above 3)");
        BENCH.begin(8);
        for (int left : ANY_INTS) {
            for (int right : ANY_INTS) {
                BENCH.engine.setRank(left, right);
                BENCH.override("setRank", true, left, right);
            }
        }
    }

    private static void rankWhileActive() {
        BENCH.sentence("While active, dyad uses l = L and r = R, and monad uses r = R, instead of the declared"
                + " ranks.");
        BENCH.begin(8);
        BENCH.x(s(2), 10, 20);
        BENCH.y(s(2, 2));
        BENCH.dyadGives("plus, inactive", PLUS, s(2, 2), 10, 11, 22, 23);
        BENCH.monadGives("sum, inactive", SUM, s(2), 2, 4);
        BENCH.engine.setRank(1, 1);
        BENCH.dyadGives("plus at 1 1", PLUS, s(2, 2), 10, 21, 12, 23);
        BENCH.monadGives("sum at 1", SUM, s(2), 1, 5);
        // Active with 0 0 is not the same as inactive.
        BENCH.engine.setRank(0, 0);
        BENCH.monadGives("sum at 0", SUM, s(2, 2), 0, 1, 2, 3);
        BENCH.dyadRefused("from at 0 0", FROM, INDEX);
        // Left and right are not the same, and the left one is not a monad's.
        BENCH.engine.setRank(0, 2);
        BENCH.monadGives("sum at 2", SUM, s(2), 2, 4);
        BENCH.dyadGives("plus at 0 2", PLUS, s(2, 2, 2), 10, 11, 12, 13, 20, 21, 22, 23);
        BENCH.engine.setRank(2, 0);
        BENCH.monadGives("sum at 0", SUM, s(2, 2), 0, 1, 2, 3);
        BENCH.dyadGives("plus at 2 0", PLUS, s(2, 2, 2), 10, 20, 11, 21, 12, 22, 13, 23);
        // Used by every call until it is changed.
        BENCH.dyadGives("plus at 2 0 again", PLUS, s(2, 2, 2), 10, 20, 11, 21, 12, 22, 13, 23);
        BENCH.engine.setRank(-1, HIGH);
        BENCH.monadGives("sum at the highest", SUM, s(2), 2, 4);
        BENCH.engine.setRank(HIGH, -1);
        BENCH.monadGives("sum at -1", SUM, s(2), 1, 5);
        BENCH.engine.setRank(HIGH, LOW);
        BENCH.monadGives("sum at the lowest", SUM, s(2, 2), 0, 1, 2, 3);
    }

    private static void rankInsideCells() {
        BENCH.sentence("Inside cells the declared ranks still govern through B.");
        BENCH.begin(8);
        BENCH.y(s(2, 2));
        for (int right : new int[] {0, 1, 2, 3, HIGH, -1, -2, LOW}) {
            BENCH.engine.setRank(0, right);
            BENCH.monadGives("neg at " + right, NEG, s(2, 2), 0, -1, -2, -3);
        }
        // At 1 1 each pair of rows is added atom by atom, and not row by row again.
        BENCH.x(s(2, 2), 10, 20, 30, 40);
        BENCH.engine.setRank(1, 1);
        BENCH.dyadGives("plus at 1 1", PLUS, s(2, 2), 10, 21, 32, 43);
        // At -1 -1 as well: the cells' own cells are atoms.
        BENCH.engine.setRank(-1, -1);
        BENCH.dyadGives("plus at -1 -1", PLUS, s(2, 2), 10, 21, 32, 43);
        // Each row of x asks for items of the whole row of y.
        BENCH.x(s(2, 2), 1, 0, -1, -1);
        BENCH.y(s(2, 2), 5, 6, 7, 8);
        BENCH.engine.setRank(1, 1);
        BENCH.dyadGives("from at 1 1", FROM, s(2, 2), 6, 5, 8, 8);
    }

    private static void rankLeavesTheRest() {
        BENCH.sentence("setRank: Registers and the fill value do not change.");
        BENCH.begin(8);
        BENCH.x(s(2, 2, 2));
        BENCH.y(s(0, 3));
        int[] before = BENCH.state();
        for (int value : ANY_INTS) {
            BENCH.engine.setRank(value, -value);
            BENCH.override("setRank", true, value, -value);
            // With the override as it was, all is as it was.
            BENCH.engine.clearRank();
            BENCH.unchanged("setRank", before);
        }
    }

    // ---- Promise 7 ----

    private static void clearWhateverWasBefore() {
        BENCH.sentence("the rank override becomes inactive and L = R = 0, whatever the previous state");
        BENCH.begin(8);
        BENCH.engine.clearRank();
        BENCH.override("inactive before", false, 0, 0);
        for (int left : ANY_INTS) {
            for (int right : new int[] {0, 2, LOW, HIGH}) {
                BENCH.engine.setRank(left, right);
                BENCH.engine.clearRank();
                BENCH.override("active before", false, 0, 0);
                BENCH.engine.clearRank();
                BENCH.override("cleared before", false, 0, 0);
            }
        }
        BENCH.y(s(2, 2));
        BENCH.engine.setRank(0, 0);
        BENCH.engine.clearRank();
        BENCH.monadGives("the declared rank is back", SUM, s(2), 2, 4);
        BENCH.x(s(2), 10, 20);
        BENCH.engine.setRank(1, 1);
        BENCH.engine.clearRank();
        BENCH.dyadGives("the declared ranks are back", PLUS, s(2, 2), 10, 11, 22, 23);
    }

    private static void clearLeavesTheRest() {
        BENCH.sentence("clearRank: Registers and the fill value do not change.");
        BENCH.begin(8);
        BENCH.x(s(2, 2, 2));
        BENCH.y(s(0, 3));
        BENCH.engine.setFill(LOW);
        int[] before = BENCH.state();
        BENCH.engine.clearRank();
        BENCH.unchanged("clearRank", before);
        BENCH.engine.setRank(3, -3);
        BENCH.engine.clearRank();
        BENCH.unchanged("clearRank", before);
    }
}
