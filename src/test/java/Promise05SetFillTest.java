/** Promise 5: setFill, and every place where an application calls for the fill value. */
public final class Promise05SetFillTest {
    private static final Check CHECK = new Check();

    public static void main(String[] args) {
        changesTheFillAlone();
        padsResultCells();
        fillsTake();
        fillsReshapeOfNothing();
        shapesEmptyFrames();
        CHECK.finish();
    }

    private static void changesTheFillAlone() {
        RankAgreement engine = new RankAgreement(16);
        engine.make(0, 2, -1, -1);
        engine.setRank(3, -3);
        for (int value : new int[] {1, -1, Integer.MAX_VALUE, Integer.MIN_VALUE, 0}) {
            engine.setFill(value);
            CHECK.due("setFill(" + value + "): fill()", engine.fill(), value);
            CHECK.array("setFill", engine, 0, Check.shape(2), 0, 1);
            for (int reg = 1; reg < 4; reg++) {
                CHECK.array("setFill", engine, reg, Check.shape(), 0);
            }
            CHECK.override("setFill", engine, true, 3, -3);
        }
    }

    private static void padsResultCells() {
        RankAgreement engine = new RankAgreement(16);
        Check.put(engine, 0, Check.shape(2), 1, 3);
        engine.setFill(-5);
        CHECK.due("iota 1 3", engine.monad(RankAgreement.IOTA, 0, 1), 6);
        CHECK.array("iota 1 3, fill -5", engine, 1, Check.shape(2, 3), 0, -5, -5, 0, 1, 2);
        engine.setFill(70);
        engine.monad(RankAgreement.IOTA, 0, 2);
        CHECK.array("iota 1 3, fill 70", engine, 2, Check.shape(2, 3), 0, 70, 70, 0, 1, 2);
        CHECK.array("the earlier result", engine, 1, Check.shape(2, 3), 0, -5, -5, 0, 1, 2);
    }

    private static void fillsTake() {
        RankAgreement engine = new RankAgreement(16);
        Check.put(engine, 0, Check.shape(1, 2), 8, 9);
        engine.setFill(4);
        engine.scalar(1, 3);
        engine.dyad(RankAgreement.TAKE, 1, 0, 2);
        CHECK.array("3 take 8 9", engine, 2, Check.shape(3, 2), 8, 9, 4, 4, 4, 4);
        engine.scalar(1, -3);
        engine.dyad(RankAgreement.TAKE, 1, 0, 2);
        CHECK.array("-3 take 8 9", engine, 2, Check.shape(3, 2), 4, 4, 4, 4, 8, 9);
    }

    private static void fillsReshapeOfNothing() {
        RankAgreement engine = new RankAgreement(16);
        engine.make(0, 0, -1, -1);
        engine.scalar(1, 2);
        engine.setFill(-7);
        engine.dyad(RankAgreement.RESHAPE, 1, 0, 2);
        CHECK.array("2 reshape of nothing", engine, 2, Check.shape(2), -7, -7);
    }

    private static void shapesEmptyFrames() {
        RankAgreement engine = new RankAgreement(16);
        engine.make(0, 0, -1, -1);
        engine.setFill(5);
        CHECK.due("iota of nothing", engine.monad(RankAgreement.IOTA, 0, 1), 0);
        CHECK.array("iota of nothing, fill 5", engine, 1, Check.shape(0, 5));
        engine.setFill(-1);
        engine.monad(RankAgreement.IOTA, 0, 1);
        CHECK.array("iota of nothing, fill -1", engine, 1, Check.shape(0));
        engine.setFill(17);
        engine.monad(RankAgreement.IOTA, 0, 1);
        CHECK.array("iota of nothing, fill 17", engine, 1, Check.shape(0));
    }
}
