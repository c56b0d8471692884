/** Promise 3: scalar. */
public final class Promise03ScalarTest {
    private static final Check CHECK = new Check();

    public static void main(String[] args) {
        RankAgreement engine = new RankAgreement(8);
        engine.setFill(6);
        engine.setRank(1, -1);
        for (int value : new int[] {0, 1, -1, 33, Integer.MIN_VALUE, Integer.MAX_VALUE}) {
            for (int reg = 0; reg < 4; reg++) {
                engine.make(reg, 2, 3, -1);
                CHECK.due("scalar(" + reg + ", " + value + ")", engine.scalar(reg, value), true);
                CHECK.array("scalar " + value, engine, reg, Check.shape(), value);
            }
        }
        engine.make(0, 0, -1, -1);
        engine.make(1, 2, -1, -1);
        CHECK.due("scalar over an empty array", engine.scalar(0, 3), true);
        CHECK.array("scalar over an empty array", engine, 0, Check.shape(), 3);
        for (int reg : new int[] {-1, 4, Integer.MIN_VALUE, Integer.MAX_VALUE}) {
            CHECK.due("scalar(" + reg + ", 5)", engine.scalar(reg, 5), false);
        }
        CHECK.array("scalars", engine, 0, Check.shape(), 3);
        CHECK.array("scalars", engine, 1, Check.shape(2), 0, 1);
        CHECK.array("scalars", engine, 2, Check.shape(), Integer.MAX_VALUE);
        CHECK.array("scalars", engine, 3, Check.shape(), Integer.MAX_VALUE);
        CHECK.due("scalars: fill()", engine.fill(), 6);
        CHECK.override("scalars", engine, true, 1, -1);
        CHECK.finish();
    }
}
