/** The boundary cases of application A, step by step, and of B inside its cells. */
public final class EdgesOfApplicationTest {
    private static final int LENGTH = RankAgreement.ERR_LENGTH;
    private static final int DOMAIN = RankAgreement.ERR_DOMAIN;
    private static final int INDEX = RankAgreement.ERR_INDEX;
    private static final int LIMIT = RankAgreement.ERR_LIMIT;
    private static final int NEG = RankAgreement.NEG;
    private static final int IOTA = RankAgreement.IOTA;
    private static final int SHAPE = RankAgreement.SHAPE;
    private static final int REVERSE = RankAgreement.REVERSE;
    private static final int SUM = RankAgreement.SUM;
    private static final int RAVEL = RankAgreement.RAVEL;
    private static final int PLUS = RankAgreement.PLUS;
    private static final int MINUS = RankAgreement.MINUS;
    private static final int RESHAPE = RankAgreement.RESHAPE;
    private static final int TAKE = RankAgreement.TAKE;
    private static final int FROM = RankAgreement.FROM;

    private static final Bench BENCH = new Bench();

    public static void main(String[] args) {
        stepsInOrder();
        framesThatAgree();
        framesThatDoNotAgree();
        commonFrame();
        cellsOfAPosition();
        emptyFramesUseFillArrays();
        emptyFramesOfLargeCells();
        emptyFramesAndErrors();
        emptyFramesAndShapes();
        emptyFramesAndLimits();
        emptyFramesReportNoError();
        emptyFramesInsideB();
        positionsInOrder();
        firstErrorEndsIt();
        largestRank();
        axisWiseMaximum();
        resultShapeAndLimits();
        paddedAtoms();
        primitiveOrDeclaredRanks();
        BENCH.finish();
    }

    private static int[] s(int... axes) {
        return axes;
    }

    private static void ranks(int left, int right) {
        BENCH.engine.setRank(left, right);
    }

    private static void stepsInOrder() {
        BENCH.sentence("The steps, in this order:");
        BENCH.begin(8);
        // Step 2 before step 3: frames that disagree, one of them without positions.
        BENCH.x(s(0));
        BENCH.y(s(2), 1, 2);
        BENCH.dyadRefused("LENGTH before an empty frame", PLUS, LENGTH);
        // Step 2 before step 4: frames that disagree, and every cell would have an error.
        BENCH.x(s(2), 9, 9);
        BENCH.y(s(3, 1), 1, 2, 3);
        ranks(0, 1);
        BENCH.dyadRefused("LENGTH before INDEX", FROM, LENGTH);
        BENCH.dyadRefused("LENGTH before LIMIT", TAKE, LENGTH);
        BENCH.x(s(2), -1, -1);
        BENCH.dyadRefused("LENGTH before DOMAIN", RESHAPE, LENGTH);
        // Step 4 before step 5: the last cell has an error, and the cells together are too large.
        BENCH.engine.clearRank();
        BENCH.y(s(3), 8, 8, -1);
        BENCH.monadRefused("DOMAIN before LIMIT", IOTA, DOMAIN);
        BENCH.y(s(1, 8));
        BENCH.x(s(3), 0, 0, 1);
        BENCH.dyadRefused("INDEX before LIMIT", FROM, INDEX);
    }

    private static final String AGREEMENT = "Dyad: the shorter frame must equal the first axes of the longer (equal"
            + " lengths: equal frames), else LENGTH error.";

    /** Added to each other at rank 0 these shapes are the frames; the longer one is the result's. */
    private static void agree(int[] one, int[] other) {
        int[] longer = one.length > other.length ? one : other;
        int count = java.util.Arrays.stream(longer).reduce(1, (a, b) -> a * b);
        for (int turn = 0; turn < 2; turn++) {
            BENCH.begin(8);
            BENCH.x(turn == 0 ? one : other);
            BENCH.y(turn == 0 ? other : one);
            BENCH.due("frames that agree", BENCH.engine.dyad(PLUS, Bench.X, Bench.Y, Bench.DST), count);
            BENCH.due("frames that agree: rank", BENCH.engine.rank(Bench.DST), longer.length);
            for (int axis = 0; axis < longer.length; axis++) {
                BENCH.due("frames that agree: dim", BENCH.engine.dim(Bench.DST, axis), longer[axis]);
            }
        }
    }

    private static void framesThatAgree() {
        BENCH.sentence("agree: " + AGREEMENT);
        for (int[] any : new int[][] {s(), s(0), s(3), s(8), s(2, 0), s(0, 8, 8), s(2, 2, 2)}) {
            agree(any, any);
            agree(s(), any);
        }
        agree(s(2), s(2, 3));
        agree(s(2), s(2, 2, 2));
        agree(s(2, 1), s(2, 1, 3));
        agree(s(1), s(1, 8));
        agree(s(0), s(0, 3));
        agree(s(0), s(0, 8, 8));
        agree(s(2, 0), s(2, 0, 3));
        agree(s(2), s(2, 0));
    }

    private static void disagree(int[] one, int[] other) {
        for (int turn = 0; turn < 2; turn++) {
            BENCH.begin(8);
            BENCH.x(turn == 0 ? one : other);
            BENCH.y(turn == 0 ? other : one);
            BENCH.dyadRefused("frames that do not agree", PLUS, LENGTH);
        }
    }

    private static void framesThatDoNotAgree() {
        BENCH.sentence("disagree: " + AGREEMENT);
        disagree(s(2), s(3));
        // A single one is not stretched.
        disagree(s(1), s(2));
        disagree(s(1), s(0));
        disagree(s(2, 1), s(2, 3));
        // The first axes count, not the last ones, and not the number of atoms.
        disagree(s(3), s(2, 3));
        disagree(s(2, 2), s(4));
        disagree(s(4), s(2, 2));
        disagree(s(1, 2), s(2, 1, 2));
        disagree(s(2, 3), s(3, 2));
        disagree(s(2, 2), s(2, 1, 2));
        disagree(s(2, 2, 1), s(2, 2, 2));
        // A frame without positions must agree as any other.
        disagree(s(0), s(2));
        disagree(s(0, 3), s(0, 2));
        disagree(s(2, 0), s(3));
        disagree(s(0, 8, 8), s(0, 8, 7));
        disagree(s(0), s(3, 0));
    }

    private static void commonFrame() {
        BENCH.sentence("The COMMON FRAME F is the longer frame (monad: y's frame).");
        BENCH.begin(8);
        BENCH.x(s(2), 10, 20);
        BENCH.y(s(2, 2));
        BENCH.dyadGives("y's is longer", PLUS, s(2, 2), 10, 11, 22, 23);
        BENCH.x(s(2, 2), 10, 20, 30, 40);
        BENCH.y(s(2));
        BENCH.dyadGives("x's is longer", PLUS, s(2, 2), 10, 20, 31, 41);
        BENCH.y(s(2, 2));
        BENCH.dyadGives("equally long", PLUS, s(2, 2), 10, 21, 32, 43);
        BENCH.x(s(), 10);
        BENCH.y(s(), 1);
        BENCH.dyadGives("both of no axes", PLUS, s(), 11);
        BENCH.y(s(2, 3));
        ranks(3, 1);
        BENCH.monadGives("monad", SHAPE, s(2, 1), 3, 3);
        ranks(3, 2);
        BENCH.monadGives("monad, frame of no axes", SHAPE, s(2), 2, 3);
    }

    private static void cellsOfAPosition() {
        BENCH.sentence("the x cell used is the one whose frame index tuple is the first (rank of x frame) coordinates"
                + " of that position; likewise for y");
        BENCH.begin(32);
        BENCH.x(s(2), 100, 200);
        BENCH.y(s(2, 1, 3));
        BENCH.dyadGives("x for three positions", PLUS, s(2, 1, 3), 100, 101, 102, 203, 204, 205);
        BENCH.dyadGives("x first", MINUS, s(2, 1, 3), 100, 99, 98, 197, 196, 195);
        BENCH.x(s(2, 3), 10, 20, 30, 40, 50, 60);
        BENCH.y(s(2, 3, 2));
        BENCH.dyadGives("x for two positions", PLUS, s(2, 3, 2),
                10, 11, 22, 23, 34, 35, 46, 47, 58, 59, 70, 71);
        BENCH.y(s(2), 1, 2);
        BENCH.dyadGives("y for three positions", MINUS, s(2, 3), 9, 19, 29, 38, 48, 58);
        BENCH.x(s(2, 3, 2));
        BENCH.y(s(2, 3), 10, 20, 30, 40, 50, 60);
        BENCH.dyadGives("y for two positions", PLUS, s(2, 3, 2),
                10, 11, 22, 23, 34, 35, 46, 47, 58, 59, 70, 71);
        BENCH.x(s(), 1);
        BENCH.dyadGives("x for all positions", MINUS, s(2, 3), -9, -19, -29, -39, -49, -59);
        // A full frame of 32 positions.
        BENCH.x(s(2), 100, 200);
        BENCH.y(s(2, 16));
        int[] due = new int[32];
        for (int i = 0; i < 32; i++) {
            due[i] = i + (i < 16 ? 100 : 200);
        }
        BENCH.dyadGives("x for sixteen positions", PLUS, s(2, 16), due);
        // Cells of a list each: one x for two rows, and one row for two x.
        BENCH.x(s(2), 1, -1);
        BENCH.y(s(2, 2, 2));
        ranks(0, 1);
        BENCH.dyadGives("one x for two rows", TAKE, s(2, 2, 1), 0, 2, 5, 7);
        BENCH.x(s(2, 2), 0, -1, 1, 0);
        BENCH.y(s(2, 2), 5, 6, 7, 8);
        BENCH.dyadGives("one row for two x", FROM, s(2, 2), 5, 6, 8, 7);
    }

    private static void emptyFramesUseFillArrays() {
        BENCH.sentence("If F has 0 positions (some axis is 0): build fill arrays of the x cell shape and the y cell"
                + " shape.");
        BENCH.begin(8);
        for (int[] frame : new int[][] {s(0), s(0, 2), s(2, 0), s(0, 8, 8), s(8, 0, 8), s(8, 8, 0), s(0, 0, 0)}) {
            BENCH.y(frame);
            BENCH.monadGives("a 0 in the frame", NEG, frame);
        }
        // The atoms that x really has do not matter where y's frame has no positions.
        BENCH.engine.setFill(2);
        BENCH.x(s(), 5);
        BENCH.y(s(0, 3));
        ranks(0, 1);
        BENCH.dyadGives("5 take no rows", TAKE, s(0, 2));
        BENCH.x(s(2), 3, 1);
        ranks(1, 1);
        BENCH.dyadGives("3 1 reshape no rows", RESHAPE, s(0, 2, 2));
        BENCH.engine.setFill(1);
        BENCH.x(s(), 9);
        BENCH.y(s(0, 2, 3));
        ranks(0, 2);
        BENCH.dyadGives("9 from no tables", FROM, s(0, 3));
        BENCH.engine.setFill(2);
        BENCH.x(s(), 0);
        BENCH.dyadGives("0 from no tables, but 2 is outside", FROM, s(0));
        // And where x's frame has none, the fill value stands for x.
        BENCH.engine.clearRank();
        BENCH.engine.setFill(-3);
        BENCH.x(s(0));
        BENCH.y(s(2), 7, 8);
        BENCH.dyadGives("no x take", TAKE, s(0, 3));
    }

    private static void emptyFramesOfLargeCells() {
        BENCH.sentence("If either would have more than cap atoms, .. let S = []");
        largeCells(8, s(0, 2, 4), s(0, 3, 3));
        largeCells(9, s(0, 3, 3), s(0, 2, 5));
        largeCells(31, s(0, 31, 1), s(0, 16, 2));
        largeCells(32, s(0, 16, 2), s(0, 3, 11));
        largeCells(32, s(0, 4, 8), s(0, 32, 32));
    }

    private static void largeCells(int cap, int[] atTheCap, int[] aboveTheCap) {
        BENCH.begin(cap);
        BENCH.engine.setFill(1);
        BENCH.y(atTheCap);
        BENCH.x(s(), 1);
        ranks(0, 2);
        BENCH.monadGives("y cells at the cap", SHAPE, s(0, 2));
        BENCH.dyadGives("y cells at the cap", TAKE, s(0, 1, atTheCap[2]));
        BENCH.y(aboveTheCap);
        BENCH.monadGives("y cells above the cap", SHAPE, s(0));
        BENCH.monadGives("y cells above the cap", NEG, s(0));
        BENCH.dyadGives("y cells above the cap", TAKE, s(0));
        BENCH.dyadGives("y cells above the cap", PLUS, s(0));
        BENCH.y(s(), 1);
        ranks(2, 0);
        BENCH.x(atTheCap);
        BENCH.dyadGives("x cells at the cap", PLUS, atTheCap);
        BENCH.x(aboveTheCap);
        BENCH.dyadGives("x cells above the cap", PLUS, s(0));
        BENCH.y(s(0));
        BENCH.dyadGives("x cells above the cap, y cells scalars", PLUS, s(0));
        BENCH.y(aboveTheCap);
        ranks(2, 2);
        BENCH.dyadGives("both above the cap", PLUS, s(0));
        BENCH.x(s(0));
        BENCH.dyadGives("y cells above the cap, x cells scalars", PLUS, s(0));
    }

    private static void emptyFramesAndErrors() {
        BENCH.sentence("If .. B on them gives any error, let S = []");
        BENCH.begin(8);
        BENCH.x(s(0, 2));
        BENCH.y(s(0, 3));
        ranks(1, 1);
        BENCH.dyadGives("LENGTH", PLUS, s(0));
        BENCH.y(s(0, 2));
        BENCH.dyadGives("no LENGTH", PLUS, s(0, 2));
        BENCH.engine.clearRank();
        BENCH.y(s(0));
        iotaOfNothing(-1, s(0));
        iotaOfNothing(Bench.LOW, s(0));
        iotaOfNothing(0, s(0, 0));
        iotaOfNothing(8, s(0, 8));
        iotaOfNothing(9, s(0));
        iotaOfNothing(Bench.HIGH, s(0));
        BENCH.x(s(0));
        BENCH.y(s(2, 3));
        withoutX(FROM, 1, s(0, 3));
        withoutX(FROM, 2, s(0));
        withoutX(FROM, -2, s(0, 3));
        withoutX(FROM, -3, s(0));
        withoutX(TAKE, 2, s(0, 2, 3));
        withoutX(TAKE, 3, s(0));
        withoutX(TAKE, -2, s(0, 2, 3));
        withoutX(TAKE, -3, s(0));
        withoutX(TAKE, Bench.LOW, s(0));
        BENCH.x(s(0, 2));
        withoutX(RESHAPE, 2, s(0, 2, 2));
        withoutX(RESHAPE, 3, s(0));
        withoutX(RESHAPE, 65536, s(0));
        withoutX(RESHAPE, -1, s(0));
        BENCH.x(s(0, 4));
        withoutX(RESHAPE, 1, s(0));
        // Errors of A inside B: too many atoms in the cells of a cell, put together.
        ranks(0, 1);
        BENCH.y(s(0, 3));
        iotaOfNothing(2, s(0, 3, 2));
        iotaOfNothing(3, s(0));
    }

    private static void iotaOfNothing(int fill, int[] shape) {
        BENCH.engine.setFill(fill);
        BENCH.monadGives("iota, fill " + fill, IOTA, shape);
    }

    private static void withoutX(int verb, int fill, int[] shape) {
        BENCH.engine.setFill(fill);
        BENCH.dyadGives("verb " + verb + ", fill " + fill, verb, shape);
    }

    private static void emptyFramesAndShapes() {
        BENCH.sentence("else S = the shape of B's result");
        BENCH.begin(8);
        BENCH.y(s(0, 2, 3));
        ranks(0, 2);
        BENCH.monadGives("tables", NEG, s(0, 2, 3));
        BENCH.monadGives("tables", SHAPE, s(0, 2));
        BENCH.monadGives("tables", REVERSE, s(0, 2, 3));
        BENCH.monadGives("tables", SUM, s(0, 3));
        BENCH.monadGives("tables", RAVEL, s(0, 6));
        ranks(0, 1);
        BENCH.monadGives("rows", SHAPE, s(0, 2, 1));
        BENCH.monadGives("rows", SUM, s(0, 2));
        BENCH.monadGives("rows", RAVEL, s(0, 2, 3));
        // Cells that have no atoms themselves.
        BENCH.y(s(0, 0, 3));
        ranks(0, 2);
        BENCH.monadGives("empty tables", SUM, s(0, 3));
        BENCH.monadGives("empty tables", RAVEL, s(0, 0));
        BENCH.y(s(0, 0));
        ranks(0, 1);
        BENCH.engine.setFill(3);
        BENCH.monadGives("empty rows", IOTA, s(0, 0, 3));
        BENCH.x(s(), 4);
        BENCH.dyadGives("empty rows", TAKE, s(0, 3));
    }

    private static void emptyFramesAndLimits() {
        BENCH.sentence("The result has shape F followed by S and no atoms (the LIMIT rule applies).");
        BENCH.begin(8);
        BENCH.y(s(0, 8));
        iotaOfNothing(8, s(0, 8, 8));
        BENCH.y(s(8, 0));
        iotaOfNothing(8, s(8, 0, 8));
        BENCH.y(s(0, 1, 1));
        iotaOfNothing(-1, s(0, 1, 1));
        iotaOfNothing(9, s(0, 1, 1));
        // Four axes are too many, even if the last of them is 0 as well.
        for (int fill : new int[] {0, 1, 8}) {
            BENCH.engine.setFill(fill);
            BENCH.monadRefused("four axes", IOTA, LIMIT);
        }
        ranks(0, 0);
        BENCH.monadRefused("four axes", SHAPE, LIMIT);
        BENCH.monadRefused("four axes", RAVEL, LIMIT);
        BENCH.monadGives("three axes", SUM, s(0, 1, 1));
        // The whole array is one cell: the limit is broken inside B, and there it is an error.
        ranks(0, 3);
        BENCH.engine.setFill(1);
        BENCH.monadRefused("four axes inside B", IOTA, LIMIT);
        // Three axes inside B are one too many outside.
        ranks(0, 2);
        BENCH.monadRefused("three axes behind one", IOTA, LIMIT);
        BENCH.engine.clearRank();
        BENCH.x(s(0));
        BENCH.y(s(2, 2, 2));
        BENCH.dyadRefused("tables behind one axis", TAKE, LIMIT);
        BENCH.dyadGives("an item of rank 2 behind one axis", FROM, s(0, 2, 2));
        BENCH.x(s(0, 2));
        BENCH.dyadRefused("an item of rank 2 behind two axes", FROM, LIMIT);
        BENCH.engine.setFill(9);
        BENCH.dyadGives("no item behind two axes", FROM, s(0, 2));
    }

    private static void emptyFramesReportNoError() {
        BENCH.sentence("No error of B is reported in this step.");
        BENCH.begin(8);
        quietWithout(IOTA, 9, LIMIT);
        quietWithout(IOTA, -1, DOMAIN);
        BENCH.engine.setFill(3);
        BENCH.x(s(0));
        BENCH.y(s(3));
        BENCH.dyadGives("INDEX of nothing", FROM, s(0));
        BENCH.x(s(1), 3);
        BENCH.dyadRefused("INDEX of one", FROM, INDEX);
        ranks(1, 1);
        BENCH.x(s(0, 2));
        BENCH.dyadGives("LENGTH of nothing", PLUS, s(0));
        BENCH.x(s(1, 2));
        BENCH.dyadRefused("LENGTH of one", PLUS, LENGTH);
    }

    /** The same value as the fill of an empty list, and as the only atom of a list of one. */
    private static void quietWithout(int verb, int value, int error) {
        BENCH.engine.setFill(value);
        BENCH.y(s(0));
        BENCH.monadGives("error " + error + " of nothing", verb, s(0));
        BENCH.y(s(1), value);
        BENCH.monadRefused("error " + error + " of one", verb, error);
    }

    /** Cells whose own frames have no positions: B's A goes through step 3 as the outer one does. */
    private static void emptyFramesInsideB() {
        BENCH.sentence("inside: If either would have more than cap atoms, or B on them gives any error, let S ="
                + " []; else S = the shape of B's result.");
        BENCH.begin(8);
        ranks(0, 1);
        for (int rows : new int[] {1, 3, 8}) {
            BENCH.y(s(rows, 0));
            iotaOfNothing(0, s(rows, 0, 0));
            iotaOfNothing(8, s(rows, 0, 8));
            iotaOfNothing(9, s(rows, 0));
            iotaOfNothing(-1, s(rows, 0));
        }
        BENCH.y(s(2, 3));
        ranks(1, 3);
        BENCH.x(s(0));
        withoutX(TAKE, 2, s(0, 2, 3));
        withoutX(TAKE, 3, s(0));
        withoutX(TAKE, -3, s(0));
        withoutX(TAKE, 9, s(0));
        withoutX(TAKE, Bench.LOW, s(0));
        withoutX(FROM, 1, s(0, 3));
        withoutX(FROM, -2, s(0, 3));
        withoutX(FROM, 2, s(0));
        withoutX(FROM, -3, s(0));
        BENCH.x(s(2, 0));
        withoutX(FROM, 1, s(2, 0, 3));
        withoutX(FROM, 2, s(2, 0));
        withoutX(TAKE, 9, s(2, 0));
        BENCH.engine.setFill(2);
        BENCH.dyadRefused("2 0 and 2 3 are four axes", TAKE, LIMIT);
        ranks(2, 3);
        BENCH.x(s(0, 2));
        withoutX(RESHAPE, 2, s(0, 2, 2));
        withoutX(RESHAPE, 3, s(0));
        withoutX(RESHAPE, 9, s(0));
        withoutX(RESHAPE, -1, s(0));
        BENCH.x(s(2, 0, 1));
        withoutX(RESHAPE, 8, s(2, 0, 8));
        withoutX(RESHAPE, 9, s(2, 0));
        ranks(1, 1);
        BENCH.x(s(2, 0));
        BENCH.y(s(2, 0));
        withoutX(PLUS, 5, s(2, 0));
        BENCH.y(s(2, 3));
        BENCH.dyadRefused("cells that do not agree, one of them empty", PLUS, LENGTH);
    }

    private static void positionsInOrder() {
        BENCH.sentence("Else, for each position q = 0, 1, .. in order, the result cell Z(q) = B(V, x cell, y cell).");
        BENCH.begin(32);
        BENCH.y(s(1), 3);
        BENCH.monadGives("one position", IOTA, s(1, 3), 0, 1, 2);
        BENCH.y(s(), 3);
        BENCH.monadGives("the one position of a frame of no axes", IOTA, s(3), 0, 1, 2);
        BENCH.y(s(32));
        BENCH.x(s(), 100);
        BENCH.engine.dyad(MINUS, Bench.X, Bench.Y, Bench.DST);
        for (int i = 0; i < 32; i++) {
            BENCH.due("position " + i + " of 32", BENCH.engine.atom(Bench.DST, i), 100 - i);
        }
        // Positions are counted even where the cells have no atoms: 32 times 32 of them.
        BENCH.y(s(32, 32, 0));
        ranks(0, 1);
        BENCH.x(s(), 0);
        BENCH.dyadGives("0 take each of 1024 empty rows", TAKE, s(32, 32, 0));
        BENCH.dyadRefused("0 from each of 1024 empty rows", FROM, INDEX);
        BENCH.y(s(4, 8, 0));
        BENCH.monadGives("32 sums of empty rows", SUM, s(4, 8), new int[32]);
    }

    private static void firstErrorEndsIt() {
        BENCH.sentence("The first error met ends A with that error.");
        BENCH.begin(8);
        iotaRefused(DOMAIN, -1, 9);
        iotaRefused(LIMIT, 9, -1);
        iotaRefused(DOMAIN, 1, 1, 1, 1, 1, 1, 1, -1);
        iotaRefused(LIMIT, 1, 1, 1, 1, 1, 1, 1, 9);
        iotaRefused(DOMAIN, 1, -1, 9, 1);
        iotaRefused(LIMIT, 1, 9, -1, 1);
        BENCH.y(s(), 5);
        BENCH.x(s(2, 2), 3, 3, 1, -1);
        BENCH.dyadRefused("too large, then negative", RESHAPE, LIMIT);
        BENCH.x(s(2, 2), 1, -1, 3, 3);
        BENCH.dyadRefused("negative, then too large", RESHAPE, DOMAIN);
        // Row by row, each row is put together before the next one is looked at.
        BENCH.y(s(1, 8));
        BENCH.x(s(2, 2), 0, 0, 1, 1);
        BENCH.dyadRefused("atom by atom", FROM, INDEX);
        ranks(1, 3);
        BENCH.dyadRefused("row by row", FROM, LIMIT);
        BENCH.x(s(2, 2), 1, 1, 0, 0);
        BENCH.dyadRefused("row by row, the other way", FROM, INDEX);
        // An error inside a cell is an error of the whole.
        BENCH.x(s(2, 2));
        BENCH.y(s(2, 3));
        ranks(1, 1);
        BENCH.dyadRefused("cells that do not agree", PLUS, LENGTH);
    }

    private static void iotaRefused(int error, int... atoms) {
        BENCH.y(s(atoms.length), atoms);
        BENCH.monadRefused("iota " + java.util.Arrays.toString(atoms), IOTA, error);
    }

    private static void largestRank() {
        // All result cells of one application have the same rank, so lifting never shows.
        BENCH.sentence("Let K = the largest rank of the Z(q).");
        BENCH.begin(8);
        BENCH.y(s(2), 7, 8);
        BENCH.monadGives("K is 0", NEG, s(2), -7, -8);
        BENCH.x(s(2), 1, 2);
        BENCH.dyadGives("K is 1", TAKE, s(2, 2), 7, -6, 7, 8);
        BENCH.x(s(2, 2), 1, 1, 1, 2);
        BENCH.dyadGives("K is 2", RESHAPE, s(2, 1, 2), 7, -6, 7, 8);
        BENCH.x(s(3), 2, 2, 2);
        BENCH.dyadGives("K is 3", RESHAPE, s(2, 2, 2), 7, 8, 7, 8, 7, 8, 7, 8);
        BENCH.x(s(3), 4, 1, 2);
        BENCH.dyadGives("K is 3, the first axis the longest", RESHAPE, s(4, 1, 2), 7, 8, 7, 8, 7, 8, 7, 8);
        BENCH.x(s(3), 1, 4, 1);
        BENCH.dyadGives("K is 3, the middle axis the longest", RESHAPE, s(1, 4, 1), 7, 8, 7, 8);
        BENCH.x(s(1, 3), 1, 1, 1);
        BENCH.dyadRefused("K is 3 behind one axis", RESHAPE, LIMIT);
    }

    private static void shapes(int[] first, int[] second, int[] shape, int... atoms) {
        BENCH.x(s(2, 2), first[0], first[1], second[0], second[1]);
        BENCH.dyadGives("two shapes", RESHAPE, shape, atoms);
    }

    private static void axisWiseMaximum() {
        BENCH.sentence("M = the axis-wise maximum of the lifted shapes.");
        BENCH.begin(8);
        BENCH.y(s(2), 8, 9);
        shapes(s(1, 2), s(2, 1), s(2, 2, 2), 8, 9, -6, -6, 8, -6, 9, -6);
        shapes(s(2, 1), s(1, 2), s(2, 2, 2), 8, -6, 9, -6, 8, 9, -6, -6);
        shapes(s(2, 2), s(1, 1), s(2, 2, 2), 8, 9, 8, 9, 8, -6, -6, -6);
        shapes(s(1, 1), s(1, 1), s(2, 1, 1), 8, 8);
        // The largest axes come from cells that have no atoms.
        shapes(s(0, 2), s(2, 0), s(2, 2, 2), -6, -6, -6, -6, -6, -6, -6, -6);
        shapes(s(0, 4), s(1, 1), s(2, 1, 4), -6, -6, -6, -6, 8, -6, -6, -6);
        shapes(s(0, 0), s(0, 0), s(2, 0, 0));
        shapes(s(0, 1), s(0, 8), s(2, 0, 8));
        shapes(s(8, 0), s(3, 0), s(2, 8, 0));
    }

    private static void resultShapeAndLimits() {
        BENCH.sentence("The result has shape F followed by M (the LIMIT rule applies)");
        BENCH.begin(8);
        BENCH.y(s(2), 4, 1);
        BENCH.monadGives("eight atoms with the fill", IOTA, s(2, 4), 0, 1, 2, 3, 0, -6, -6, -6);
        iotaRefused(LIMIT, 5, 1);
        iotaRefused(LIMIT, 1, 5);
        iotaRefused(LIMIT, 0, 0, 0, 0, 3);
        BENCH.y(s(8), 0, 0, 0, 0, 0, 0, 0, 1);
        BENCH.monadGives("one atom and seven fills", IOTA, s(8, 1), -6, -6, -6, -6, -6, -6, -6, 0);
        BENCH.y(s(8), 0, 0, 0, 0, 0, 0, 0, 0);
        BENCH.monadGives("no atoms at all", IOTA, s(8, 0));
        BENCH.y(s(1, 1, 1), 0);
        BENCH.monadRefused("four axes, the last one 0", IOTA, LIMIT);
        // Both cells have no atoms, and together they would have 2 times 8 times 8.
        BENCH.y(s(), 5);
        BENCH.x(s(2, 2), 8, 0, 0, 8);
        BENCH.dyadRefused("two empty cells", RESHAPE, LIMIT);
        BENCH.x(s(2, 2), 1, 3, 2, 1);
        BENCH.dyadRefused("five atoms in two cells of six", RESHAPE, LIMIT);
        BENCH.x(s(2, 2), 1, 2, 2, 1);
        BENCH.dyadGives("four atoms in two cells of four", RESHAPE, s(2, 2, 2), 5, 5, -6, -6, 5, -6, 5, -6);
    }

    private static void paddedAtoms() {
        BENCH.sentence("is the atom of Z(q) at tuple t when every coordinate of t is below the lifted shape of Z(q),"
                + " else the fill value");
        BENCH.begin(32);
        BENCH.y(s(4), 0, 3, 1, 2);
        BENCH.monadGives("rows", IOTA, s(4, 3), -6, -6, -6, 0, 1, 2, 0, -6, -6, 0, 1, -6);
        BENCH.engine.setFill(Bench.LOW);
        BENCH.y(s(2), 0, 1);
        BENCH.monadGives("the fill that is in force", IOTA, s(2, 1), Bench.LOW, 0);
        BENCH.engine.setFill(-6);
        BENCH.y(s(6), 1, 2, 3, 4, 5, 6);
        BENCH.x(s(2, 2), 2, 3, 3, 2);
        BENCH.dyadGives("tables", RESHAPE, s(2, 3, 3),
                1, 2, 3, 4, 5, 6, -6, -6, -6, 1, 2, -6, 3, 4, -6, 5, 6, -6);
        // Twice padded: each row inside B, then the rows to the longest of all.
        BENCH.y(s(2, 2), 1, 0, 3, 2);
        ranks(0, 1);
        BENCH.monadGives("rows of rows", IOTA, s(2, 2, 3), 0, -6, -6, -6, -6, -6, 0, 1, 2, 0, 1, -6);
    }

    private static void primitiveOrDeclaredRanks() {
        BENCH.sentence("if the ranks of xc and yc do not exceed V's declared ranks, the answer is P(V, xc, yc); else"
                + " it is A(V, xc, yc, declared left rank, declared right rank)");
        BENCH.begin(16);
        BENCH.x(s(2), 2, 2);
        BENCH.y(s(2, 2, 2));
        ranks(1, 3);
        BENCH.dyadGives("the declared ranks themselves", RESHAPE, s(2, 2), 0, 1, 2, 3);
        ranks(0, 3);
        BENCH.dyadGives("below the declared ranks", RESHAPE, s(2, 2), 0, 1, 0, 1);
        BENCH.x(s(2, 1), 1, 2);
        ranks(2, 3);
        BENCH.dyadGives("x above its declared rank", RESHAPE, s(2, 2), 0, -6, 0, 1);
        BENCH.x(s(2), 10, 20);
        BENCH.y(s(3), 1, 2, 3);
        ranks(0, 1);
        BENCH.dyadGives("y above its declared rank", PLUS, s(2, 3), 11, 12, 13, 21, 22, 23);
        ranks(1, 0);
        BENCH.dyadGives("x above its declared rank", PLUS, s(3, 2), 11, 21, 12, 22, 13, 23);
        ranks(1, 1);
        BENCH.dyadRefused("both above, and they do not agree", PLUS, LENGTH);
        BENCH.y(s(2), 1, 2);
        BENCH.dyadGives("both above, and they agree", PLUS, s(2), 11, 22);
        BENCH.y(s(2, 2));
        BENCH.dyadGives("both above, cell by cell", PLUS, s(2, 2), 10, 21, 12, 23);
        BENCH.x(s(2), 1, -2);
        BENCH.y(s(3), 7, 8, 9);
        BENCH.dyadGives("x above its declared rank", TAKE, s(2, 2), 7, -6, 8, 9);
        BENCH.dyadGives("x above its declared rank", FROM, s(2), 8, 8);
        BENCH.y(s(2, 2), 1, 0, 2, 2);
        for (int rank : new int[] {0, 1, 2, 3}) {
            ranks(0, rank);
            BENCH.monadGives("iota at rank " + rank, IOTA, s(2, 2, 2), 0, -6, -6, -6, 0, 1, 0, 1);
        }
        BENCH.engine.setFill(2);
        BENCH.y(s(3, 0));
        ranks(0, 1);
        BENCH.monadGives("a frame without positions inside B", IOTA, s(3, 0, 2));
        BENCH.engine.setFill(-1);
        BENCH.monadGives("and an error there that nobody hears of", IOTA, s(3, 0));
    }
}
