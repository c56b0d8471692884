/** Promise 7: clearRank. */
public final class Promise07ClearRankTest {
    private static final Check CHECK = new Check();

    public static void main(String[] args) {
        RankAgreement engine = new RankAgreement(8);
        engine.make(0, 2, 2, -1);
        engine.setFill(4);
        engine.clearRank();
        CHECK.override("clearRank on an inactive override", engine, false, 0, 0);
        engine.setRank(-7, 2);
        engine.clearRank();
        CHECK.override("clearRank", engine, false, 0, 0);
        engine.clearRank();
        CHECK.override("clearRank twice", engine, false, 0, 0);
        CHECK.array("clearRank", engine, 0, Check.shape(2, 2), 0, 1, 2, 3);
        for (int reg = 1; reg < 4; reg++) {
            CHECK.array("clearRank", engine, reg, Check.shape(), 0);
        }
        CHECK.due("clearRank: fill()", engine.fill(), 4);
        declaredRanksAreBack();
        CHECK.finish();
    }

    private static void declaredRanksAreBack() {
        RankAgreement engine = new RankAgreement(8);
        engine.make(0, 2, 2, -1);
        Check.put(engine, 1, Check.shape(2), 10, 20);
        engine.setRank(1, 1);
        engine.monad(RankAgreement.SUM, 0, 2);
        CHECK.array("sum at rank 1", engine, 2, Check.shape(2), 1, 5);
        engine.dyad(RankAgreement.PLUS, 1, 0, 2);
        CHECK.array("plus at ranks 1 1", engine, 2, Check.shape(2, 2), 10, 21, 12, 23);
        engine.clearRank();
        engine.monad(RankAgreement.SUM, 0, 2);
        CHECK.array("sum after clearRank", engine, 2, Check.shape(2), 2, 4);
        engine.dyad(RankAgreement.PLUS, 1, 0, 2);
        CHECK.array("plus after clearRank", engine, 2, Check.shape(2, 2), 10, 11, 22, 23);
        engine.setRank(1, 1);
        CHECK.override("setRank after clearRank", engine, true, 1, 1);
    }
}
