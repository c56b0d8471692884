/** The boundary cases of the document's introduction and of what it says of arrays and cells. */
public final class EdgesOfArraysTest {
    private static final int LENGTH = RankAgreement.ERR_LENGTH;
    private static final int INDEX = RankAgreement.ERR_INDEX;
    private static final int LIMIT = RankAgreement.ERR_LIMIT;
    private static final int IOTA = RankAgreement.IOTA;
    private static final int SHAPE = RankAgreement.SHAPE;
    private static final int REVERSE = RankAgreement.REVERSE;
    private static final int SUM = RankAgreement.SUM;
    private static final int RAVEL = RankAgreement.RAVEL;
    private static final int PLUS = RankAgreement.PLUS;
    private static final int RESHAPE = RankAgreement.RESHAPE;
    private static final int TAKE = RankAgreement.TAKE;
    private static final int FROM = RankAgreement.FROM;

    private static final Bench BENCH = new Bench();

    public static void main(String[] args) {
        registersHoldRanks0To3();
        tooLargeIsRefused();
        rowMajor();
        scalars();
        limitsOfStoredArrays();
        limitsOfProducedArrays();
        items();
        treatedAsAList();
        fillArrays();
        cellRankOfAMonad();
        cellRankOfX();
        cellRankOfY();
        frameAndCells();
        BENCH.finish();
    }

    private static int[] s(int... axes) {
        return axes;
    }

    private static void registersHoldRanks0To3() {
        BENCH.sentence("It keeps four registers, each holding one int array of rank 0 to 3");
        BENCH.begin(8);
        for (int reg = 0; reg < 4; reg++) {
            BENCH.makeGives(reg, -1, -1, -1);
            BENCH.makeGives(reg, 2, -1, -1, 2);
            BENCH.makeGives(reg, 2, 1, -1, 2, 1);
            BENCH.makeGives(reg, 2, 1, 3, 2, 1, 3);
        }
    }

    private static void tooLargeIsRefused() {
        BENCH.sentence("Any array that would break the size limits is refused with a limit error, and a"
                + " refused call changes nothing.");
        BENCH.begin(8);
        BENCH.engine.setRank(3, 0);
        BENCH.x(s(), 9);
        BENCH.y(s(2), 4, 9);
        BENCH.makeRefused(LIMIT, 2, 9, -1, -1);
        BENCH.monadRefused("iota 4 9", IOTA, LIMIT);
        BENCH.engine.setRank(0, 3);
        BENCH.dyadRefused("9 take 4 9", TAKE, LIMIT);
    }

    private static void rowMajor() {
        BENCH.sentence("count = s0*..*s(k-1) atoms (ints) in row-major order (the last axis varies fastest)");
        BENCH.begin(32);
        BENCH.y(s(2, 3, 4));
        RankAgreement engine = BENCH.engine;
        // Axis by axis down to one atom: 1 of 2, then 0 of 3, then 3 of 4.
        for (int index : new int[] {1, 0, 3}) {
            engine.scalar(Bench.X, index);
            engine.dyad(FROM, Bench.X, Bench.Y, Bench.Y);
        }
        BENCH.holds("the atom at 1 0 3 of 2 3 4", Bench.Y, s(), 15);
        BENCH.y(s(2, 3, 4));
        BENCH.due("count of 2 3 4", engine.count(Bench.Y), 24);
        BENCH.due("the last atom", engine.atom(Bench.Y, 23), 23);
        BENCH.due("behind the last atom", engine.atom(Bench.Y, 24), 0);
    }

    private static void scalars() {
        BENCH.sentence("Rank 0 is a scalar with shape [] and 1 atom.");
        BENCH.begin(8);
        BENCH.makeGives(0, -1, -1, -1);
        BENCH.y(s(3), 5, 6, 7);
        BENCH.monadGives("sum of a list", SUM, s(), 18);
        BENCH.x(s(), 2);
        BENCH.dyadGives("an item of a list", FROM, s(), 7);
        BENCH.x(s(0));
        BENCH.dyadGives("reshape by no axes", RESHAPE, s(), 5);
        BENCH.y(s(), 4);
        BENCH.monadGives("ravel of a scalar", RAVEL, s(1), 4);
        BENCH.monadGives("shape of a scalar", SHAPE, s(0));
    }

    private static void limitsOfStoredArrays() {
        BENCH.sentence("Every stored .. array obeys the LIMITS: rank <= 3, every axis length <= cap, count <= cap.");
        for (int cap : new int[] {8, 9, 20, 31, 32}) {
            BENCH.begin(cap);
            int half = cap / 2;
            BENCH.makeGives(0, cap, -1, -1, cap);
            BENCH.makeGives(0, 1, cap, -1, 1, cap);
            BENCH.makeGives(0, 1, 1, cap, 1, 1, cap);
            BENCH.makeGives(0, cap, cap, 0, cap, cap, 0);
            BENCH.makeGives(0, 2, half, 1, 2, half, 1);
            BENCH.makeRefused(LIMIT, 0, cap + 1, -1, -1);
            BENCH.makeRefused(LIMIT, 0, 0, cap + 1, -1);
            BENCH.makeRefused(LIMIT, 0, 0, 0, cap + 1);
            BENCH.makeRefused(LIMIT, 0, 2, half + 1, -1);
            BENCH.makeRefused(LIMIT, 0, half + 1, 1, 2);
        }
    }

    private static void limitsOfProducedArrays() {
        BENCH.sentence("Every .. produced array obeys the LIMITS: rank <= 3, every axis length <= cap, count <="
                + " cap.");
        for (int cap : new int[] {8, 9, 20, 31, 32}) {
            BENCH.begin(cap);
            int half = cap / 2;
            BENCH.y(s(), 5);
            BENCH.x(s(3), 1, 1, 1);
            BENCH.dyadGives("rank 3", RESHAPE, s(1, 1, 1), 5);
            BENCH.x(s(4), 1, 1, 1, 1);
            BENCH.dyadRefused("rank 4", RESHAPE, LIMIT);
            BENCH.x(s(2), 1, cap);
            BENCH.dyadGives("axis at the cap", RESHAPE, s(1, cap), Bench.repeated(5, cap));
            BENCH.x(s(2), 0, cap);
            BENCH.dyadGives("axis at the cap beside 0", RESHAPE, s(0, cap));
            BENCH.x(s(2), 0, cap + 1);
            BENCH.dyadRefused("axis above the cap beside 0", RESHAPE, LIMIT);
            BENCH.x(s(2), cap + 1, 0);
            BENCH.dyadRefused("axis above the cap before 0", RESHAPE, LIMIT);
            BENCH.x(s(2), 2, half);
            BENCH.dyadGives("count up to the cap", RESHAPE, s(2, half), Bench.repeated(5, 2 * half));
            BENCH.x(s(2), 2, half + 1);
            BENCH.dyadRefused("count above the cap", RESHAPE, LIMIT);
            BENCH.y(s(2), half, half);
            int[] twice = new int[2 * half];
            for (int i = 0; i < half; i++) {
                twice[i] = i;
                twice[half + i] = i;
            }
            BENCH.monadGives("assembled count up to the cap", IOTA, s(2, half), twice);
            BENCH.y(s(2), half, half + 1);
            BENCH.monadRefused("assembled count above the cap", IOTA, LIMIT);
            BENCH.y(s(1, 1), 1);
            BENCH.monadGives("assembled rank 3", IOTA, s(1, 1, 1), 0);
            BENCH.y(s(1, 1, 1), 1);
            BENCH.monadRefused("assembled rank 4", IOTA, LIMIT);
        }
    }

    private static void items() {
        BENCH.sentence("An ITEM of an array of rank k >= 1 is the rank k-1 array of shape [s1..] made of atoms"
                + " j*t .. j*t+t-1 (t = product of s1..), for item index j in 0..s0-1.");
        BENCH.begin(32);
        itemOf(s(4), 0, s(), 0);
        itemOf(s(4), 3, s(), 3);
        noItemOf(s(4), 4);
        itemOf(s(3, 2), 0, s(2), 0, 1);
        itemOf(s(3, 2), 2, s(2), 4, 5);
        noItemOf(s(3, 2), 3);
        itemOf(s(2, 3, 2), 0, s(3, 2), 0, 1, 2, 3, 4, 5);
        itemOf(s(2, 3, 2), 1, s(3, 2), 6, 7, 8, 9, 10, 11);
        noItemOf(s(2, 3, 2), 2);
        itemOf(s(1, 32), 0, s(32), Bench.counting(32));
        itemOf(s(32, 1), 31, s(1), 31);
        itemOf(s(32, 0), 31, s(0));
        itemOf(s(2, 32, 0), 1, s(32, 0));
        noItemOf(s(0), 0);
        noItemOf(s(0, 32, 32), 0);
    }

    private static void itemOf(int[] shape, int j, int[] itemShape, int... atoms) {
        BENCH.y(shape);
        BENCH.x(s(), j);
        BENCH.dyadGives("item " + j, FROM, itemShape, atoms);
    }

    private static void noItemOf(int[] shape, int j) {
        BENCH.y(shape);
        BENCH.x(s(), j);
        BENCH.dyadRefused("item " + j, FROM, INDEX);
    }

    private static void treatedAsAList() {
        BENCH.sentence("When a verb says a rank 0 argument is TREATED AS A LIST, it is read as the rank 1 array"
                + " [a] of shape [1].");
        for (int[] oneAtom : new int[][] {s(), s(1)}) {
            BENCH.begin(8);
            BENCH.x(oneAtom, 2);
            BENCH.y(s(3), 4, 5, 6);
            BENCH.dyadGives("2 reshape", RESHAPE, s(2), 4, 5);
            BENCH.y(oneAtom, 9);
            takes(0, s(0));
            takes(1, s(1), 9);
            takes(-1, s(1), 9);
            takes(2, s(2), 9, -6);
            takes(-2, s(2), -6, 9);
            BENCH.x(s(2), 0, -1);
            BENCH.dyadGives("0 -1 from", FROM, s(2), 9, 9);
            noItemOf(oneAtom, 1);
            noItemOf(oneAtom, -2);
        }
    }

    private static void takes(int wanted, int[] shape, int... atoms) {
        BENCH.x(s(), wanted);
        BENCH.dyadGives(wanted + " take", TAKE, shape, atoms);
    }

    private static void fillArrays() {
        BENCH.sentence("A FILL ARRAY of shape S is the array of shape S whose atoms all equal the current fill"
                + " value.");
        for (int fill : new int[] {0, 1, -1, Bench.LOW, Bench.HIGH}) {
            BENCH.begin(8);
            BENCH.y(s(1), 7);
            BENCH.engine.setFill(fill);
            takes(2, s(2), 7, fill);
            BENCH.y(s(1, 2), 7, 8);
            takes(2, s(2, 2), 7, 8, fill, fill);
            BENCH.y(s(1, 2, 2), 6, 7, 8, 9);
            takes(-2, s(2, 2, 2), fill, fill, fill, fill, 6, 7, 8, 9);
            BENCH.y(s(1, 0, 2));
            takes(2, s(2, 0, 2));
        }
    }

    private static final int[] RANK_VALUES = {
        Bench.LOW, Bench.LOW + 1, Bench.LOW + 2, Bench.LOW + 3, -4, -3, -2, -1,
        0, 1, 2, 3, 4, Bench.HIGH - 1, Bench.HIGH
    };

    /** By rank value and then by the argument's rank, 0 to 3. */
    private static final int[][] CELL_RANKS = {
        {0, 0, 0, 0}, {0, 0, 0, 0}, {0, 0, 0, 0}, {0, 0, 0, 0}, {0, 0, 0, 0}, {0, 0, 0, 0}, {0, 0, 0, 1}, {0, 0, 1, 2},
        {0, 0, 0, 0}, {0, 1, 1, 1}, {0, 1, 2, 2}, {0, 1, 2, 3}, {0, 1, 2, 3}, {0, 1, 2, 3}, {0, 1, 2, 3}
    };

    private static final String CELL_RANK_SENTENCE =
            "min(v, a) if v >= 0, and max(0, a + v) computed mathematically (without overflow) if v < 0";

    private static void cellRankOfAMonad() {
        BENCH.sentence("monad: " + CELL_RANK_SENTENCE);
        // Summing takes the first axis off each cell, so the axis that is gone tells the cell's rank.
        int[][] shapes = {s(), s(2), s(2, 3), s(2, 3, 4)};
        int[][][] sums = {{s()}, {s(2), s()}, {s(2, 3), s(2), s(3)}, {s(2, 3, 4), s(2, 3), s(2, 4), s(3, 4)}};
        for (int v = 0; v < RANK_VALUES.length; v++) {
            for (int a = 0; a <= 3; a++) {
                BENCH.begin(32);
                BENCH.y(shapes[a]);
                // The left rank is not a monad's.
                BENCH.engine.setRank(RANK_VALUES[v] == 1 ? 0 : 1, RANK_VALUES[v]);
                BENCH.engine.monad(SUM, Bench.Y, Bench.DST);
                shapeIs("rank " + a + " at " + RANK_VALUES[v], sums[a][CELL_RANKS[v][a]]);
            }
        }
    }

    private static void shapeIs(String name, int[] shape) {
        BENCH.due(name + ": rank", BENCH.engine.rank(Bench.DST), shape.length);
        for (int axis = 0; axis < shape.length; axis++) {
            BENCH.due(name + ": dim " + axis, BENCH.engine.dim(Bench.DST, axis), shape[axis]);
        }
    }

    /**
     * Adding a list of n to a cell inside B works only if the cell's first axis is n; so the first
     * axis tells the cell's rank. A scalar cell takes every n, and then the result grows an axis.
     */
    private static int sumWithList(int[] shape, int cellRank, int n) {
        int[] counts = {1, 2, 6, 24};
        if (cellRank == 0) {
            int count = counts[shape.length] * n;
            return shape.length == 3 || count > 32 ? LIMIT : count;
        }
        return shape[shape.length - cellRank] == n ? counts[shape.length] : LENGTH;
    }

    private static void cellRankOfX() {
        BENCH.sentence("left: " + CELL_RANK_SENTENCE);
        int[][] shapes = {s(), s(2), s(2, 3), s(2, 3, 4)};
        for (int v = 0; v < RANK_VALUES.length; v++) {
            for (int a = 0; a <= 3; a++) {
                for (int n = 2; n <= 5; n++) {
                    BENCH.begin(32);
                    BENCH.x(shapes[a]);
                    BENCH.y(s(n));
                    BENCH.engine.setRank(RANK_VALUES[v], 1);
                    BENCH.due("rank " + a + " at " + RANK_VALUES[v] + " plus a list of " + n,
                            BENCH.engine.dyad(PLUS, Bench.X, Bench.Y, Bench.DST),
                            sumWithList(shapes[a], CELL_RANKS[v][a], n));
                }
            }
        }
    }

    private static void cellRankOfY() {
        BENCH.sentence("right: " + CELL_RANK_SENTENCE);
        int[][] shapes = {s(), s(2), s(2, 3), s(2, 3, 4)};
        for (int v = 0; v < RANK_VALUES.length; v++) {
            for (int a = 0; a <= 3; a++) {
                for (int n = 2; n <= 5; n++) {
                    BENCH.begin(32);
                    BENCH.x(s(n));
                    BENCH.y(shapes[a]);
                    BENCH.engine.setRank(1, RANK_VALUES[v]);
                    BENCH.due("a list of " + n + " plus rank " + a + " at " + RANK_VALUES[v],
                            BENCH.engine.dyad(PLUS, Bench.X, Bench.Y, Bench.DST),
                            sumWithList(shapes[a], CELL_RANKS[v][a], n));
                }
            }
        }
    }

    private static void frameAndCells() {
        BENCH.sentence("With cell rank c, the FRAME of the argument is its first a-c axes and its CELLS are the"
                + " rank-c arrays formed by its last c axes; cell number p is atoms p*t .. p*t+t-1");
        BENCH.begin(8);
        BENCH.y(s(2, 2, 2));
        reversedAt(0, 0, 1, 2, 3, 4, 5, 6, 7);
        reversedAt(1, 1, 0, 3, 2, 5, 4, 7, 6);
        reversedAt(2, 2, 3, 0, 1, 6, 7, 4, 5);
        reversedAt(3, 4, 5, 6, 7, 0, 1, 2, 3);
        // Cells without atoms are still counted: one for each position of the frame.
        BENCH.y(s(3, 0));
        BENCH.engine.setRank(0, 1);
        BENCH.monadGives("sums of three empty rows", SUM, s(3), 0, 0, 0);
        BENCH.y(s(2, 2, 0));
        BENCH.monadGives("sums of two times two empty rows", SUM, s(2, 2), 0, 0, 0, 0);
        BENCH.y(s(2, 0, 2));
        BENCH.engine.setRank(0, 2);
        BENCH.monadGives("sums of two empty tables", SUM, s(2, 2), 0, 0, 0, 0);
    }

    private static void reversedAt(int rank, int... atoms) {
        BENCH.engine.setRank(0, rank);
        BENCH.monadGives("reverse at rank " + rank, REVERSE, s(2, 2, 2), atoms);
    }
}
