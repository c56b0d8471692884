/** Promise 8: monad, each verb with its edges, and what a refused call leaves as it was. */
public final class Promise08MonadTest {
    private static final int NEG = RankAgreement.NEG;
    private static final int IOTA = RankAgreement.IOTA;
    private static final int SHAPE = RankAgreement.SHAPE;
    private static final int REVERSE = RankAgreement.REVERSE;
    private static final int SUM = RankAgreement.SUM;
    private static final int RAVEL = RankAgreement.RAVEL;
    private static final int LOW = Integer.MIN_VALUE;
    private static final int HIGH = Integer.MAX_VALUE;
    private static final Check CHECK = new Check();

    private static RankAgreement engine;

    public static void main(String[] args) {
        negate();
        indexGenerator();
        shapeOf();
        reverse();
        sum();
        ravel();
        emptyFrames();
        liftedCells();
        errorsInOrder();
        wrongArguments();
        destinations();
        errorsChangeNothing();
        CHECK.finish();
    }

    private static int[] s(int... axes) {
        return axes;
    }

    private static void given(int[] shape, int... atoms) {
        engine = new RankAgreement(16);
        engine.setFill(-6);
        Check.put(engine, 0, shape, atoms);
    }

    private static void gives(String name, int verb, int[] shape, int... atoms) {
        CHECK.due(name, engine.monad(verb, 0, 1), atoms.length);
        CHECK.array(name, engine, 1, shape, atoms);
    }

    private static void refuses(String name, int verb, int error) {
        engine.scalar(1, 123);
        CHECK.due(name, engine.monad(verb, 0, 1), error);
        CHECK.array(name, engine, 1, s(), 123);
    }

    private static void negate() {
        given(s(), 5);
        gives("neg 5", NEG, s(), -5);
        given(s(2, 2), 1, -2, LOW, HIGH);
        gives("neg of a table", NEG, s(2, 2), -1, 2, LOW, -HIGH);
        given(s(2, 0));
        gives("neg of nothing", NEG, s(2, 0));
    }

    private static void indexGenerator() {
        given(s(), 4);
        gives("iota 4", IOTA, s(4), 0, 1, 2, 3);
        given(s(), 0);
        gives("iota 0", IOTA, s(0));
        given(s(), -1);
        refuses("iota -1", IOTA, RankAgreement.ERR_DOMAIN);
        given(s(), LOW);
        refuses("iota of the lowest", IOTA, RankAgreement.ERR_DOMAIN);
        given(s(), 17);
        refuses("iota 17", IOTA, RankAgreement.ERR_LIMIT);
        given(s(), HIGH);
        refuses("iota of the highest", IOTA, RankAgreement.ERR_LIMIT);
        given(s(2), 0, 2);
        gives("iota 0 2", IOTA, s(2, 2), -6, -6, 0, 1);
        given(s(3), 0, 0, 0);
        gives("iota 0 0 0", IOTA, s(3, 0));
        given(s(2), 9, 1);
        refuses("iota 9 1", IOTA, RankAgreement.ERR_LIMIT);
        given(s(1, 1, 1), 1);
        refuses("iota at rank 3", IOTA, RankAgreement.ERR_LIMIT);
    }

    private static void shapeOf() {
        given(s(), 5);
        gives("shape of a scalar", SHAPE, s(0));
        given(s(3), 7, 7, 7);
        gives("shape of a list", SHAPE, s(1), 3);
        given(s(2, 1, 4));
        gives("shape of rank 3", SHAPE, s(3), 2, 1, 4);
        given(s(0, 16, 16));
        gives("shape of nothing", SHAPE, s(3), 0, 16, 16);
        given(s(2, 3));
        engine.setRank(0, 1);
        gives("shape of rows", SHAPE, s(2, 1), 3, 3);
        engine.setRank(0, 0);
        gives("shape of atoms", SHAPE, s(2, 3, 0));
    }

    private static void reverse() {
        given(s(), 5);
        gives("reverse of a scalar", REVERSE, s(), 5);
        given(s(3), 7, 8, 9);
        gives("reverse of a list", REVERSE, s(3), 9, 8, 7);
        given(s(3, 2), 1, 2, 3, 4, 5, 6);
        gives("reverse of a table", REVERSE, s(3, 2), 5, 6, 3, 4, 1, 2);
        engine.setRank(0, 1);
        gives("reverse of rows", REVERSE, s(3, 2), 2, 1, 4, 3, 6, 5);
        given(s(2, 2, 2), 1, 2, 3, 4, 5, 6, 7, 8);
        gives("reverse of rank 3", REVERSE, s(2, 2, 2), 5, 6, 7, 8, 1, 2, 3, 4);
        given(s(0, 16, 16));
        gives("reverse of nothing", REVERSE, s(0, 16, 16));
        given(s(16, 16, 0));
        engine.setRank(0, 1);
        gives("reverse of empty rows", REVERSE, s(16, 16, 0));
    }

    private static void sum() {
        given(s(), 5);
        gives("sum of a scalar", SUM, s(), 5);
        given(s(3), 7, 8, 9);
        gives("sum of a list", SUM, s(), 24);
        given(s(2), HIGH, 1);
        gives("sum wraps", SUM, s(), LOW);
        given(s(2, 3), 1, 2, 3, 40, 50, 60);
        gives("sum of a table", SUM, s(3), 41, 52, 63);
        given(s(2, 2, 2), 1, 2, 3, 4, 50, 60, 70, 80);
        gives("sum of rank 3", SUM, s(2, 2), 51, 62, 73, 84);
        given(s(0));
        gives("sum of an empty list", SUM, s(), 0);
        given(s(0, 3));
        gives("sum of no rows", SUM, s(3), 0, 0, 0);
        given(s(3, 0));
        gives("sum of empty rows", SUM, s(0));
        given(s(0, 4, 4));
        gives("sum of no tables", SUM, s(4, 4), new int[16]);
        given(s(0, 16, 16));
        refuses("sum of no large tables", SUM, RankAgreement.ERR_LIMIT);
        given(s(16, 16, 0));
        engine.setRank(0, 1);
        refuses("sums of 256 empty rows", SUM, RankAgreement.ERR_LIMIT);
    }

    private static void ravel() {
        given(s(), 5);
        gives("ravel of a scalar", RAVEL, s(1), 5);
        given(s(2, 1, 2), 4, 3, 2, 1);
        gives("ravel of rank 3", RAVEL, s(4), 4, 3, 2, 1);
        engine.setRank(0, 2);
        gives("ravel of tables", RAVEL, s(2, 2), 4, 3, 2, 1);
        engine.setRank(0, 0);
        refuses("ravel of atoms at rank 3", RAVEL, RankAgreement.ERR_LIMIT);
        given(s(0, 16, 16));
        gives("ravel of nothing", RAVEL, s(0));
    }

    private static void emptyFrames() {
        given(s(0, 2, 2));
        gives("iota of nothing, its error unsaid", IOTA, s(0, 2, 2));
        engine.setFill(3);
        refuses("iota of nothing at rank 3", IOTA, RankAgreement.ERR_LIMIT);
        engine.setRank(0, 2);
        gives("sum of tables that are not there", SUM, s(0, 2));
        gives("shape of tables that are not there", SHAPE, s(0, 2));
        gives("ravel of tables that are not there", RAVEL, s(0, 4));
        gives("neg of tables that are not there", NEG, s(0, 2, 2));
        given(s(0, 16, 16));
        engine.setRank(0, 2);
        gives("cells with more atoms than the cap", SHAPE, s(0));
        engine.setRank(0, 1);
        gives("cells with as many atoms as the cap", RAVEL, s(0, 16, 16));
        given(s(0, 3, 6));
        engine.setRank(0, 2);
        gives("cells with a few atoms more than the cap", SHAPE, s(0));
        given(s(0, 4, 4));
        engine.setRank(0, 2);
        gives("table cells with as many atoms as the cap", SHAPE, s(0, 2));
        given(s(2, 0, 3));
        engine.setRank(0, 1);
        gives("an empty axis inside the frame", SUM, s(2, 0));
        engine.setRank(0, 2);
        gives("an empty axis inside the cells", SUM, s(2, 3), 0, 0, 0, 0, 0, 0);
        // Inside one cell the frame of the declared rank may be empty too.
        given(s(0));
        engine.setFill(2);
        engine.setRank(0, 1);
        gives("iota at rank 1 of nothing", IOTA, s(0, 2));
        given(s(3, 0));
        engine.setFill(2);
        engine.setRank(0, 1);
        gives("iota at rank 1 of empty rows", IOTA, s(3, 0, 2));
    }

    private static void liftedCells() {
        given(s(2, 2), 2, 1, 0, 3);
        engine.setRank(0, 1);
        gives("cells of two shapes", IOTA, s(2, 2, 3), 0, 1, -6, 0, -6, -6, -6, -6, -6, 0, 1, 2);
        given(s(2), 0, 1);
        gives("an empty cell beside a full one", IOTA, s(2, 1), -6, 0);
    }

    private static void errorsInOrder() {
        given(s(3), 17, -1, 2);
        refuses("iota 17 -1", IOTA, RankAgreement.ERR_LIMIT);
        given(s(3), 2, -1, 17);
        refuses("iota -1 17", IOTA, RankAgreement.ERR_DOMAIN);
        // A cell's own error comes before the limit that the assembled cells would break.
        given(s(3), 16, 16, -1);
        refuses("iota 16 16 -1", IOTA, RankAgreement.ERR_DOMAIN);
        given(s(1, 1, 1), -1);
        refuses("iota of -1 at rank 3", IOTA, RankAgreement.ERR_DOMAIN);
    }

    private static void wrongArguments() {
        given(s(2), 1, 2);
        int[][] calls = {
            {-1, 0, 1}, {6, 0, 1}, {12, 0, 1}, {13, 0, 1}, {LOW, 0, 1}, {HIGH, 0, 1},
            {NEG, -1, 1}, {NEG, 4, 1}, {NEG, 0, -1}, {NEG, 0, 4}, {RAVEL, LOW, 0}, {RAVEL, 0, HIGH}
        };
        for (int[] call : calls) {
            String name = "monad(" + call[0] + ", " + call[1] + ", " + call[2] + ")";
            CHECK.due(name, engine.monad(call[0], call[1], call[2]), RankAgreement.ERR_ARG);
            CHECK.array(name, engine, 0, s(2), 1, 2);
            CHECK.array(name, engine, 1, s(), 0);
        }
    }

    private static void destinations() {
        given(s(2), 1, 2);
        Check.put(engine, 2, s(2, 2), 9, 9, 9, 9);
        engine.setRank(5, -1);
        CHECK.due("iota onto itself", engine.monad(IOTA, 0, 0), 4);
        CHECK.array("iota onto itself", engine, 0, s(2, 2), 0, -6, 0, 1);
        CHECK.array("iota onto itself", engine, 1, s(), 0);
        CHECK.array("iota onto itself", engine, 2, s(2, 2), 9, 9, 9, 9);
        CHECK.due("neg to register 3", engine.monad(NEG, 2, 3), 4);
        CHECK.array("neg to register 3", engine, 3, s(2, 2), -9, -9, -9, -9);
        CHECK.array("neg to register 3", engine, 2, s(2, 2), 9, 9, 9, 9);
        CHECK.due("monads: fill()", engine.fill(), -6);
        CHECK.override("monads", engine, true, 5, -1);
    }

    private static void errorsChangeNothing() {
        given(s(3), 3, 2, -1);
        Check.put(engine, 1, s(2), 4, 5);
        Check.put(engine, 2, s(1, 2), 6, 7);
        engine.scalar(3, 8);
        engine.setRank(2, 0);
        for (int dst = 0; dst < 4; dst++) {
            CHECK.due("iota 3 2 -1", engine.monad(IOTA, 0, dst), RankAgreement.ERR_DOMAIN);
            CHECK.array("iota 3 2 -1", engine, 0, s(3), 3, 2, -1);
            CHECK.array("iota 3 2 -1", engine, 1, s(2), 4, 5);
            CHECK.array("iota 3 2 -1", engine, 2, s(1, 2), 6, 7);
            CHECK.array("iota 3 2 -1", engine, 3, s(), 8);
            CHECK.due("iota 3 2 -1: fill()", engine.fill(), -6);
            CHECK.override("iota 3 2 -1", engine, true, 2, 0);
        }
    }
}
