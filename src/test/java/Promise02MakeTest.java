/** Promise 2: make. */
public final class Promise02MakeTest {
    private static final int LIMIT = RankAgreement.ERR_LIMIT;
    private static final int ARG = RankAgreement.ERR_ARG;
    private static final Check CHECK = new Check();

    public static void main(String[] args) {
        makesArrays();
        makesEmptyArrays();
        anyNegativeIsAbsent();
        refusals();
        testsInOrder();
        leavesTheRestAlone();
        CHECK.finish();
    }

    private static void makesArrays() {
        RankAgreement engine = new RankAgreement(16);
        CHECK.due("make 5", engine.make(0, 5, -1, -1), 5);
        CHECK.array("make 5", engine, 0, Check.shape(5), 0, 1, 2, 3, 4);
        CHECK.due("make 2 3", engine.make(1, 2, 3, -1), 6);
        CHECK.array("make 2 3", engine, 1, Check.shape(2, 3), 0, 1, 2, 3, 4, 5);
        CHECK.due("make 2 1 4", engine.make(2, 2, 1, 4), 8);
        CHECK.array("make 2 1 4", engine, 2, Check.shape(2, 1, 4), 0, 1, 2, 3, 4, 5, 6, 7);
        engine.scalar(3, 77);
        CHECK.due("make of a scalar", engine.make(3, -1, -1, -1), 1);
        CHECK.array("make of a scalar", engine, 3, Check.shape(), 0);
        engine.set(0, 3, 99);
        engine.make(0, 2, 2, -1);
        CHECK.array("make over an older array", engine, 0, Check.shape(2, 2), 0, 1, 2, 3);
        CHECK.due("make at the cap", engine.make(0, 4, 2, 2), 16);
    }

    private static void makesEmptyArrays() {
        RankAgreement engine = new RankAgreement(16);
        CHECK.due("make 0", engine.make(0, 0, -1, -1), 0);
        CHECK.array("make 0", engine, 0, Check.shape(0));
        CHECK.due("make 3 0", engine.make(0, 3, 0, -1), 0);
        CHECK.array("make 3 0", engine, 0, Check.shape(3, 0));
        CHECK.due("make 16 16 0", engine.make(0, 16, 16, 0), 0);
        CHECK.array("make 16 16 0", engine, 0, Check.shape(16, 16, 0));
        CHECK.due("make 0 16 16", engine.make(0, 0, 16, 16), 0);
        CHECK.array("make 0 16 16", engine, 0, Check.shape(0, 16, 16));
    }

    private static void anyNegativeIsAbsent() {
        RankAgreement engine = new RankAgreement(16);
        CHECK.due("absent by other negatives", engine.make(0, 3, -2, Integer.MIN_VALUE), 3);
        CHECK.array("absent by other negatives", engine, 0, Check.shape(3), 0, 1, 2);
        CHECK.due("all absent", engine.make(0, Integer.MIN_VALUE, -7, -100), 1);
        CHECK.array("all absent", engine, 0, Check.shape(), 0);
    }

    private static void refused(int due, int reg, int d0, int d1, int d2) {
        String call = "make(" + reg + ", " + d0 + ", " + d1 + ", " + d2 + ")";
        RankAgreement engine = new RankAgreement(16);
        Check.put(engine, 0, Check.shape(2, 2), 9, 8, 7, 6);
        CHECK.due(call, engine.make(reg, d0, d1, d2), due);
        CHECK.array(call, engine, 0, Check.shape(2, 2), 9, 8, 7, 6);
        for (int other = 1; other < 4; other++) {
            CHECK.array(call, engine, other, Check.shape(), 0);
        }
    }

    private static void refusals() {
        refused(ARG, -1, 2, -1, -1);
        refused(ARG, 4, 2, -1, -1);
        refused(ARG, Integer.MIN_VALUE, 2, -1, -1);
        refused(ARG, Integer.MAX_VALUE, 2, -1, -1);
        refused(ARG, 0, -1, 2, -1);
        refused(ARG, 0, -1, -1, 2);
        refused(ARG, 0, -1, 2, 2);
        refused(ARG, 0, 2, -1, 2);
        refused(ARG, 0, 2, -1, 0);
        refused(ARG, 0, -1, 0, -1);
        refused(ARG, 0, -1, -1, 0);
        refused(LIMIT, 0, 17, -1, -1);
        refused(LIMIT, 0, 1, 17, -1);
        refused(LIMIT, 0, 1, 1, 17);
        refused(LIMIT, 0, 0, 17, -1);
        refused(LIMIT, 0, 17, 0, 0);
        refused(LIMIT, 0, 0, 0, 17);
        refused(LIMIT, 0, 0, 0, Integer.MAX_VALUE);
        refused(LIMIT, 0, 65536, 65536, -1);
        refused(LIMIT, 0, 3, 6, -1);
        refused(LIMIT, 0, 3, 3, 2);
        refused(LIMIT, 0, 16, 16, 16);
    }

    private static void testsInOrder() {
        refused(ARG, 4, 99, -1, -1);
        refused(ARG, 0, 99, -1, 2);
        refused(ARG, 0, -1, 99, -1);
    }

    private static void leavesTheRestAlone() {
        RankAgreement engine = new RankAgreement(16);
        engine.scalar(0, 11);
        engine.make(1, 2, -1, -1);
        engine.scalar(3, 44);
        engine.setFill(5);
        engine.setRank(-2, 7);
        engine.make(2, 2, 2, 2);
        CHECK.array("make of register 2", engine, 0, Check.shape(), 11);
        CHECK.array("make of register 2", engine, 1, Check.shape(2), 0, 1);
        CHECK.array("make of register 2", engine, 3, Check.shape(), 44);
        CHECK.due("make: fill()", engine.fill(), 5);
        CHECK.override("make", engine, true, -2, 7);
        engine.make(2, 99, -1, -1);
        CHECK.due("refused make: fill()", engine.fill(), 5);
        CHECK.override("refused make", engine, true, -2, 7);
        fullNeighbours();
    }

    /** Arrays of the greatest size side by side do not run into each other. */
    private static void fullNeighbours() {
        RankAgreement engine = new RankAgreement(32);
        for (int reg = 3; reg >= 0; reg--) {
            engine.make(reg, 32, -1, -1);
            engine.set(reg, 0, 1000 + reg);
            engine.set(reg, 31, 2000 + reg);
        }
        for (int made = 0; made < 4; made++) {
            engine.make(made, 4, 8, -1);
            for (int reg = 0; reg < 4; reg++) {
                boolean old = reg > made;
                CHECK.due("full register " + reg + " atom 0", engine.atom(reg, 0), old ? 1000 + reg : 0);
                CHECK.due("full register " + reg + " atom 31", engine.atom(reg, 31), old ? 2000 + reg : 31);
            }
        }
    }
}
