/** The example of README.md answers what README.md says. */
public final class ReadmeTest {
    public static void main(String[] args) {
        Check check = new Check();
        RankAgreement engine = new RankAgreement(16);
        engine.make(0, 2, 3, -1);
        check.array("make", engine, 0, Check.shape(2, 3), 0, 1, 2, 3, 4, 5);
        engine.monad(RankAgreement.SUM, 0, 1);
        check.array("sum", engine, 1, Check.shape(3), 3, 5, 7);
        engine.setRank(0, 1);
        engine.monad(RankAgreement.SUM, 0, 1);
        check.array("sum of rows", engine, 1, Check.shape(2), 3, 12);
        engine.clearRank();
        engine.setFill(9);
        check.due("iota", engine.monad(RankAgreement.IOTA, 1, 2), RankAgreement.ERR_LIMIT);
        engine.dyad(RankAgreement.PLUS, 1, 0, 2);
        check.array("plus", engine, 2, Check.shape(2, 3), 3, 4, 5, 15, 16, 17);
        check.due("last", engine.atom(2, 5), 17);
        check.finish();
    }
}
