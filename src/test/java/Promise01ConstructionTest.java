/** Promise 1: the cap is clamped, and a new object starts from zeros. */
public final class Promise01ConstructionTest {
    private static final Check CHECK = new Check();

    public static void main(String[] args) {
        capIs(8, 8);
        capIs(9, 9);
        capIs(20, 20);
        capIs(31, 31);
        capIs(32, 32);
        capIs(7, 8);
        capIs(0, 8);
        capIs(-1, 8);
        capIs(Integer.MIN_VALUE, 8);
        capIs(33, 32);
        capIs(Integer.MAX_VALUE, 32);
        startingState();
        objectsShareNothing();
        CHECK.finish();
    }

    private static void capIs(int given, int due) {
        String name = "cap " + given;
        RankAgreement engine = new RankAgreement(given);
        CHECK.due(name + ": make of the cap", engine.make(0, due, -1, -1), due);
        CHECK.due(name + ": make above the cap", engine.make(0, due + 1, -1, -1), RankAgreement.ERR_LIMIT);
        CHECK.due(name + ": axis above the cap", engine.make(0, 0, due + 1, -1), RankAgreement.ERR_LIMIT);
        engine.scalar(1, due);
        CHECK.due(name + ": iota of the cap", engine.monad(RankAgreement.IOTA, 1, 2), due);
        engine.scalar(1, due + 1);
        CHECK.due(name + ": iota above the cap", engine.monad(RankAgreement.IOTA, 1, 2), RankAgreement.ERR_LIMIT);
    }

    private static void startingState() {
        for (int cap : new int[] {-3, 8, 16, 32, 99}) {
            RankAgreement engine = new RankAgreement(cap);
            for (int reg = 0; reg < 4; reg++) {
                CHECK.array("new object", engine, reg, Check.shape(), 0);
            }
            CHECK.due("new object: fill()", engine.fill(), 0);
            CHECK.override("new object", engine, false, 0, 0);
        }
    }

    private static void objectsShareNothing() {
        RankAgreement first = new RankAgreement(8);
        RankAgreement second = new RankAgreement(16);
        first.make(0, 2, 3, -1);
        first.setFill(5);
        first.setRank(1, 2);
        CHECK.array("after calls on another object", second, 0, Check.shape(), 0);
        CHECK.due("after calls on another object: fill()", second.fill(), 0);
        CHECK.override("after calls on another object", second, false, 0, 0);
    }
}
