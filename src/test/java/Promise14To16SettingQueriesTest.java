/** Promises 14 to 16: fill, rankSetting and declaredRank, which change nothing. */
public final class Promise14To16SettingQueriesTest {
    private static final int LOW = Integer.MIN_VALUE;
    private static final int HIGH = Integer.MAX_VALUE;
    private static final Check CHECK = new Check();

    public static void main(String[] args) {
        fill();
        rankSetting();
        declaredRank();
        nothingChanges();
        CHECK.finish();
    }

    private static void fill() {
        RankAgreement engine = new RankAgreement(8);
        CHECK.due("fill() at the start", engine.fill(), 0);
        for (int value : new int[] {5, LOW, HIGH, -1, 0}) {
            engine.setFill(value);
            CHECK.due("fill()", engine.fill(), value);
            CHECK.due("fill() again", engine.fill(), value);
        }
    }

    private static void sides(RankAgreement engine, int active, int left, int right) {
        CHECK.due("rankSetting(0)", engine.rankSetting(0), active);
        CHECK.due("rankSetting(1)", engine.rankSetting(1), left);
        CHECK.due("rankSetting(2)", engine.rankSetting(2), right);
        for (int side : new int[] {-1, 3, 4, LOW, HIGH}) {
            CHECK.due("rankSetting(" + side + ")", engine.rankSetting(side), 0);
        }
    }

    private static void rankSetting() {
        RankAgreement engine = new RankAgreement(8);
        sides(engine, 0, 0, 0);
        engine.setRank(2, -5);
        sides(engine, 1, 2, -5);
        engine.setRank(0, 0);
        sides(engine, 1, 0, 0);
        engine.setRank(HIGH, LOW);
        sides(engine, 1, HIGH, LOW);
        engine.clearRank();
        sides(engine, 0, 0, 0);
    }

    private static void declaredRank() {
        // By verb: side 0, side 1, side 2.
        int[][] due = {
            {0, -1, -1}, {0, -1, -1}, {3, -1, -1}, {3, -1, -1}, {3, -1, -1}, {3, -1, -1},
            {-1, 0, 0}, {-1, 0, 0}, {-1, 0, 0}, {-1, 0, 0}, {-1, 1, 3}, {-1, 0, 3}, {-1, 0, 3}
        };
        RankAgreement engine = new RankAgreement(8);
        for (int turn = 0; turn < 2; turn++) {
            for (int verb = 0; verb <= 12; verb++) {
                for (int side = 0; side < 3; side++) {
                    CHECK.due("declaredRank(" + verb + ", " + side + ")",
                            engine.declaredRank(verb, side), due[verb][side]);
                }
                for (int side : new int[] {-1, 3, LOW, HIGH}) {
                    CHECK.due("declaredRank(" + verb + ", " + side + ")", engine.declaredRank(verb, side), -1);
                }
            }
            for (int verb : new int[] {-1, 13, LOW, HIGH}) {
                for (int side = -1; side <= 3; side++) {
                    CHECK.due("declaredRank(" + verb + ", " + side + ")", engine.declaredRank(verb, side), -1);
                }
            }
            // An override does not change what is declared.
            engine.setRank(2, 2);
        }
    }

    private static void nothingChanges() {
        RankAgreement engine = new RankAgreement(8);
        engine.make(0, 2, -1, -1);
        engine.setFill(7);
        engine.setRank(1, 2);
        for (int i = -1; i < 14; i++) {
            engine.fill();
            engine.rankSetting(i);
            engine.declaredRank(i, i & 3);
        }
        CHECK.array("queries", engine, 0, Check.shape(2), 0, 1);
        for (int reg = 1; reg < 4; reg++) {
            CHECK.array("queries", engine, reg, Check.shape(), 0);
        }
        CHECK.due("queries: fill()", engine.fill(), 7);
        CHECK.override("queries", engine, true, 1, 2);
    }
}
