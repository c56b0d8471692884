/** Promises 10 to 13: rank, dim, count and atom, which look at a register and change nothing. */
public final class Promise10To13ArrayQueriesTest {
    private static final int[] NO_REGISTERS = {-1, 4, 5, Integer.MIN_VALUE, Integer.MAX_VALUE};
    private static final Check CHECK = new Check();

    private static RankAgreement engine;

    public static void main(String[] args) {
        engine = new RankAgreement(16);
        engine.setFill(3);
        engine.setRank(1, -2);
        engine.scalar(0, 42);
        Check.put(engine, 1, Check.shape(3), 7, -8, 9);
        engine.make(2, 2, 0, -1);
        Check.put(engine, 3, Check.shape(2, 1, 4), 10, 11, 12, 13, 20, 21, 22, 23);
        ranks();
        dims();
        counts();
        atoms();
        nothingHasChanged();
        CHECK.finish();
    }

    private static void ranks() {
        int[] due = {0, 1, 2, 3};
        for (int reg = 0; reg < 4; reg++) {
            CHECK.due("rank(" + reg + ")", engine.rank(reg), due[reg]);
        }
        for (int reg : NO_REGISTERS) {
            CHECK.due("rank(" + reg + ")", engine.rank(reg), -1);
        }
    }

    private static void dims() {
        int[][] due = {{-1, -1, -1}, {3, -1, -1}, {2, 0, -1}, {2, 1, 4}};
        for (int reg = 0; reg < 4; reg++) {
            for (int axis = 0; axis < 3; axis++) {
                CHECK.due("dim(" + reg + ", " + axis + ")", engine.dim(reg, axis), due[reg][axis]);
            }
            for (int axis : new int[] {-1, 3, 4, Integer.MIN_VALUE, Integer.MAX_VALUE}) {
                CHECK.due("dim(" + reg + ", " + axis + ")", engine.dim(reg, axis), -1);
            }
        }
        for (int reg : NO_REGISTERS) {
            CHECK.due("dim(" + reg + ", 0)", engine.dim(reg, 0), -1);
        }
        // Axes that an older array had are gone.
        RankAgreement other = new RankAgreement(16);
        other.make(0, 2, 2, 2);
        other.make(0, 3, -1, -1);
        CHECK.due("dim(0, 1) of a list", other.dim(0, 1), -1);
        other.make(0, 2, 2, 2);
        other.scalar(0, 1);
        CHECK.due("dim(0, 0) of a scalar", other.dim(0, 0), -1);
        other.make(0, 2, 2, 2);
        other.monad(RankAgreement.SUM, 0, 0);
        CHECK.due("dim(0, 2) of a sum", other.dim(0, 2), -1);
    }

    private static void counts() {
        int[] due = {1, 3, 0, 8};
        for (int reg = 0; reg < 4; reg++) {
            CHECK.due("count(" + reg + ")", engine.count(reg), due[reg]);
        }
        for (int reg : NO_REGISTERS) {
            CHECK.due("count(" + reg + ")", engine.count(reg), -1);
        }
    }

    private static void atoms() {
        CHECK.due("atom(0, 0)", engine.atom(0, 0), 42);
        int[] list = {7, -8, 9};
        for (int i = 0; i < 3; i++) {
            CHECK.due("atom(1, " + i + ")", engine.atom(1, i), list[i]);
        }
        int[] rows = {10, 11, 12, 13, 20, 21, 22, 23};
        for (int i = 0; i < 8; i++) {
            CHECK.due("atom(3, " + i + ")", engine.atom(3, i), rows[i]);
        }
        int[][] outside = {
            {0, 1}, {0, -1}, {1, 3}, {1, -1}, {2, 0}, {2, 1}, {3, 8}, {3, 32}, {1, 64},
            {3, Integer.MIN_VALUE}, {3, Integer.MAX_VALUE}
        };
        for (int[] at : outside) {
            CHECK.due("atom(" + at[0] + ", " + at[1] + ")", engine.atom(at[0], at[1]), 0);
        }
        for (int reg : NO_REGISTERS) {
            CHECK.due("atom(" + reg + ", 0)", engine.atom(reg, 0), 0);
        }
        // Atoms that an older array had are gone.
        RankAgreement other = new RankAgreement(16);
        other.make(0, 8, -1, -1);
        other.make(0, 2, -1, -1);
        CHECK.due("atom(0, 2) of two", other.atom(0, 2), 0);
        other.make(0, 8, -1, -1);
        other.scalar(0, 5);
        CHECK.due("atom(0, 1) of a scalar", other.atom(0, 1), 0);
    }

    private static void nothingHasChanged() {
        CHECK.array("queries", engine, 0, Check.shape(), 42);
        CHECK.array("queries", engine, 1, Check.shape(3), 7, -8, 9);
        CHECK.array("queries", engine, 2, Check.shape(2, 0));
        CHECK.array("queries", engine, 3, Check.shape(2, 1, 4), 10, 11, 12, 13, 20, 21, 22, 23);
        CHECK.due("queries: fill()", engine.fill(), 3);
        CHECK.override("queries", engine, true, 1, -2);
    }
}
