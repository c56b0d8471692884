/** Promise 6: setRank. */
public final class Promise06SetRankTest {
    private static final Check CHECK = new Check();

    public static void main(String[] args) {
        changesTheOverrideAlone();
        monadUsesTheRightRank();
        dyadUsesBothRanks();
        declaredRanksGovernInside();
        wildRanks();
        CHECK.finish();
    }

    private static void changesTheOverrideAlone() {
        RankAgreement engine = new RankAgreement(8);
        engine.make(0, 2, -1, -1);
        engine.setFill(3);
        int[][] pairs = {
            {0, 0}, {1, 2}, {-1, -3}, {4, 100}, {Integer.MIN_VALUE, Integer.MAX_VALUE}
        };
        for (int[] pair : pairs) {
            engine.setRank(pair[0], pair[1]);
            CHECK.override("setRank", engine, true, pair[0], pair[1]);
            CHECK.array("setRank", engine, 0, Check.shape(2), 0, 1);
            CHECK.array("setRank", engine, 1, Check.shape(), 0);
            CHECK.due("setRank: fill()", engine.fill(), 3);
        }
    }

    private static void sumAtRank(int right, int[] shape, int... atoms) {
        RankAgreement engine = new RankAgreement(8);
        engine.make(0, 2, 2, 2);
        // The left rank would give another answer if the monad used it.
        engine.setRank(right == 1 ? 2 : 1, right);
        CHECK.due("sum at rank " + right, engine.monad(RankAgreement.SUM, 0, 1), atoms.length);
        CHECK.array("sum at rank " + right, engine, 1, shape, atoms);
    }

    private static void monadUsesTheRightRank() {
        sumAtRank(0, Check.shape(2, 2, 2), 0, 1, 2, 3, 4, 5, 6, 7);
        sumAtRank(1, Check.shape(2, 2), 1, 5, 9, 13);
        sumAtRank(2, Check.shape(2, 2), 2, 4, 10, 12);
        sumAtRank(3, Check.shape(2, 2), 4, 6, 8, 10);
        sumAtRank(4, Check.shape(2, 2), 4, 6, 8, 10);
        sumAtRank(Integer.MAX_VALUE, Check.shape(2, 2), 4, 6, 8, 10);
        sumAtRank(-1, Check.shape(2, 2), 2, 4, 10, 12);
        sumAtRank(-2, Check.shape(2, 2), 1, 5, 9, 13);
        sumAtRank(-3, Check.shape(2, 2, 2), 0, 1, 2, 3, 4, 5, 6, 7);
        sumAtRank(-4, Check.shape(2, 2, 2), 0, 1, 2, 3, 4, 5, 6, 7);
        sumAtRank(Integer.MIN_VALUE, Check.shape(2, 2, 2), 0, 1, 2, 3, 4, 5, 6, 7);
    }

    private static void dyadUsesBothRanks() {
        RankAgreement engine = new RankAgreement(8);
        Check.put(engine, 0, Check.shape(2), 10, 20);
        Check.put(engine, 1, Check.shape(3), 1, 2, 3);
        CHECK.due("10 20 plus 1 2 3", engine.dyad(RankAgreement.PLUS, 0, 1, 2), RankAgreement.ERR_LENGTH);
        engine.setRank(0, 1);
        CHECK.due("10 20 plus 1 2 3 at 0 1", engine.dyad(RankAgreement.PLUS, 0, 1, 2), 6);
        CHECK.array("10 20 plus 1 2 3 at 0 1", engine, 2, Check.shape(2, 3), 11, 12, 13, 21, 22, 23);
        engine.setRank(1, 0);
        CHECK.due("10 20 plus 1 2 3 at 1 0", engine.dyad(RankAgreement.PLUS, 0, 1, 2), 6);
        CHECK.array("10 20 plus 1 2 3 at 1 0", engine, 2, Check.shape(3, 2), 11, 21, 12, 22, 13, 23);
        engine.setRank(-1, -1);
        CHECK.due("at -1 -1", engine.dyad(RankAgreement.PLUS, 0, 1, 2), RankAgreement.ERR_LENGTH);
        engine.setRank(-1, 5);
        CHECK.due("at -1 5", engine.dyad(RankAgreement.PLUS, 0, 1, 2), 6);
        CHECK.array("at -1 5", engine, 2, Check.shape(2, 3), 11, 12, 13, 21, 22, 23);
    }

    private static void declaredRanksGovernInside() {
        RankAgreement engine = new RankAgreement(16);
        Check.put(engine, 0, Check.shape(2, 2), 1, 2, 0, 3);
        engine.setFill(-9);
        engine.setRank(3, 1);
        CHECK.due("iota at rank 1", engine.monad(RankAgreement.IOTA, 0, 1), 12);
        CHECK.array("iota at rank 1", engine, 1, Check.shape(2, 2, 3),
                0, -9, -9, 0, 1, -9, -9, -9, -9, 0, 1, 2);
        Check.put(engine, 0, Check.shape(2), 1, -1);
        Check.put(engine, 1, Check.shape(3), 5, 6, 7);
        engine.setRank(1, 1);
        CHECK.due("1 -1 from 5 6 7 at 1 1", engine.dyad(RankAgreement.FROM, 0, 1, 2), 2);
        CHECK.array("1 -1 from 5 6 7 at 1 1", engine, 2, Check.shape(2), 6, 7);
        engine.setRank(1, 0);
        CHECK.due("1 -1 from atoms", engine.dyad(RankAgreement.FROM, 0, 1, 2), RankAgreement.ERR_INDEX);
    }

    private static void wildRanks() {
        RankAgreement engine = new RankAgreement(8);
        Check.put(engine, 0, Check.shape(2), 3, 4);
        Check.put(engine, 1, Check.shape(2), 10, 20);
        int[] wild = {Integer.MIN_VALUE, -4, 3, 4, Integer.MAX_VALUE};
        for (int left : wild) {
            for (int right : wild) {
                engine.setRank(left, right);
                boolean scalarCells = left < 0 && right >= 0;
                boolean table = left < 0 != right < 0;
                CHECK.due("plus at " + left + " " + right,
                        engine.dyad(RankAgreement.PLUS, 0, 1, 2), table ? 4 : 2);
                if (!table) {
                    CHECK.array("plus", engine, 2, Check.shape(2), 13, 24);
                } else if (scalarCells) {
                    CHECK.array("plus", engine, 2, Check.shape(2, 2), 13, 23, 14, 24);
                } else {
                    CHECK.array("plus", engine, 2, Check.shape(2, 2), 13, 14, 23, 24);
                }
            }
        }
    }
}
