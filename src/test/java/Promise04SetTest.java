/** Promise 4: set. */
public final class Promise04SetTest {
    private static final Check CHECK = new Check();

    public static void main(String[] args) {
        setsOneAtom();
        refusals();
        CHECK.finish();
    }

    private static void setsOneAtom() {
        RankAgreement engine = new RankAgreement(32);
        engine.setFill(6);
        engine.setRank(1, -1);
        engine.make(0, 2, 2, -1);
        engine.make(1, 2, 2, 8);
        CHECK.due("set first", engine.set(0, 0, Integer.MIN_VALUE), true);
        CHECK.array("set first", engine, 0, Check.shape(2, 2), Integer.MIN_VALUE, 1, 2, 3);
        CHECK.due("set last", engine.set(0, 3, Integer.MAX_VALUE), true);
        CHECK.array("set last", engine, 0, Check.shape(2, 2), Integer.MIN_VALUE, 1, 2, Integer.MAX_VALUE);
        CHECK.due("set of a scalar", engine.set(2, 0, -4), true);
        CHECK.array("set of a scalar", engine, 2, Check.shape(), -4);
        CHECK.due("set of atom 31", engine.set(1, 31, 500), true);
        for (int i = 0; i < 32; i++) {
            CHECK.due("set of atom 31: atom " + i, engine.atom(1, i), i == 31 ? 500 : i);
        }
        CHECK.array("sets", engine, 3, Check.shape(), 0);
        CHECK.due("sets: fill()", engine.fill(), 6);
        CHECK.override("sets", engine, true, 1, -1);
    }

    private static void refusals() {
        RankAgreement engine = new RankAgreement(8);
        engine.make(0, 2, 2, -1);
        engine.make(1, 0, 3, -1);
        engine.make(2, 8, -1, -1);
        // A shorter array over a longer one: what lies behind its count is out of reach.
        engine.make(2, 2, -1, -1);
        refused(engine, 0, 4);
        refused(engine, 0, -1);
        refused(engine, 0, Integer.MIN_VALUE);
        refused(engine, 0, Integer.MAX_VALUE);
        refused(engine, 1, 0);
        refused(engine, 1, -1);
        refused(engine, 2, 2);
        refused(engine, 3, 1);
        refused(engine, -1, 0);
        refused(engine, 4, 0);
        refused(engine, Integer.MIN_VALUE, 0);
        refused(engine, Integer.MAX_VALUE, 0);
    }

    private static void refused(RankAgreement engine, int reg, int index) {
        String call = "set(" + reg + ", " + index + ", 99)";
        CHECK.due(call, engine.set(reg, index, 99), false);
        CHECK.array(call, engine, 0, Check.shape(2, 2), 0, 1, 2, 3);
        CHECK.array(call, engine, 1, Check.shape(0, 3));
        CHECK.array(call, engine, 2, Check.shape(2), 0, 1);
        CHECK.array(call, engine, 3, Check.shape(), 0);
        CHECK.due(call + ": fill()", engine.fill(), 0);
        CHECK.override(call, engine, false, 0, 0);
    }
}
