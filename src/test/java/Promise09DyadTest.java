/** Promise 9: dyad, each verb with its edges, and what a refused call leaves as it was. */
public final class Promise09DyadTest {
    private static final int PLUS = RankAgreement.PLUS;
    private static final int MINUS = RankAgreement.MINUS;
    private static final int TIMES = RankAgreement.TIMES;
    private static final int MAX = RankAgreement.MAX;
    private static final int RESHAPE = RankAgreement.RESHAPE;
    private static final int TAKE = RankAgreement.TAKE;
    private static final int FROM = RankAgreement.FROM;
    private static final int LENGTH = RankAgreement.ERR_LENGTH;
    private static final int DOMAIN = RankAgreement.ERR_DOMAIN;
    private static final int INDEX = RankAgreement.ERR_INDEX;
    private static final int LIMIT = RankAgreement.ERR_LIMIT;
    private static final int LOW = Integer.MIN_VALUE;
    private static final int HIGH = Integer.MAX_VALUE;
    private static final Check CHECK = new Check();

    private static RankAgreement engine;

    public static void main(String[] args) {
        arithmetic();
        agreement();
        reshape();
        take();
        from();
        emptyFrames();
        liftedCells();
        errorsInOrder();
        wrongArguments();
        destinations();
        errorsChangeNothing();
        CHECK.finish();
    }

    private static int[] s(int... axes) {
        return axes;
    }

    private static void begin() {
        engine = new RankAgreement(16);
        engine.setFill(-6);
    }

    private static void x(int[] shape, int... atoms) {
        Check.put(engine, 0, shape, atoms);
    }

    private static void y(int[] shape, int... atoms) {
        Check.put(engine, 1, shape, atoms);
    }

    private static void gives(String name, int verb, int[] shape, int... atoms) {
        CHECK.due(name, engine.dyad(verb, 0, 1, 2), atoms.length);
        CHECK.array(name, engine, 2, shape, atoms);
    }

    private static void refuses(String name, int verb, int error) {
        engine.scalar(2, 123);
        CHECK.due(name, engine.dyad(verb, 0, 1, 2), error);
        CHECK.array(name, engine, 2, s(), 123);
    }

    private static void arithmetic() {
        begin();
        x(s(3), 7, -3, 2);
        y(s(3), 5, 4, -9);
        gives("plus", PLUS, s(3), 12, 1, -7);
        gives("minus", MINUS, s(3), 2, -7, 11);
        gives("times", TIMES, s(3), 35, -12, -18);
        gives("max", MAX, s(3), 7, 4, 2);
        x(s(2), HIGH, LOW);
        y(s(2), 1, HIGH);
        gives("plus wraps", PLUS, s(2), LOW, -1);
        gives("minus wraps", MINUS, s(2), HIGH - 1, 1);
        gives("times wraps", TIMES, s(2), HIGH, LOW);
        gives("max of the ends", MAX, s(2), HIGH, HIGH);
        x(s(), 65536);
        y(s(), 65536);
        gives("times wraps to 0", TIMES, s(), 0);
    }

    private static void agreement() {
        begin();
        x(s(2), 10, 20);
        y(s(2, 3), 0, 1, 2, 3, 4, 5);
        gives("list plus table", PLUS, s(2, 3), 10, 11, 12, 23, 24, 25);
        y(s(2, 2, 2));
        gives("list plus rank 3", PLUS, s(2, 2, 2), 10, 11, 12, 13, 24, 25, 26, 27);
        x(s(2, 2), 10, 20, 30, 40);
        gives("table plus rank 3", PLUS, s(2, 2, 2), 10, 11, 22, 23, 34, 35, 46, 47);
        y(s(), 1);
        gives("table minus scalar", MINUS, s(2, 2), 9, 19, 29, 39);
        y(s(2), 1, 2);
        gives("table minus list", MINUS, s(2, 2), 9, 19, 28, 38);
        y(s(3), 1, 2, 3);
        refuses("2 2 and 3", PLUS, LENGTH);
        y(s(2, 3));
        refuses("2 2 and 2 3", PLUS, LENGTH);
        x(s(3), 1, 2, 3);
        refuses("3 and 2 3", PLUS, LENGTH);
        x(s(1), 1);
        refuses("1 and 2 3", PLUS, LENGTH);
        x(s(2), 3, 1);
        y(s(2, 3));
        engine.setRank(0, 1);
        gives("take from rows", TAKE, s(2, 3), 0, 1, 2, 3, -6, -6);
        engine.setRank(1, 1);
        y(s(3));
        refuses("2 and 3 inside one cell", PLUS, LENGTH);
    }

    private static void reshape() {
        begin();
        x(s(2), 2, 3);
        y(s(4), 5, 6, 7, 8);
        gives("2 3 reshape", RESHAPE, s(2, 3), 5, 6, 7, 8, 5, 6);
        y(s(2, 2), 1, 2, 3, 4);
        gives("2 3 reshape of a table", RESHAPE, s(2, 3), 1, 2, 3, 4, 1, 2);
        y(s(), 9);
        gives("2 3 reshape of a scalar", RESHAPE, s(2, 3), 9, 9, 9, 9, 9, 9);
        y(s(0, 3));
        gives("2 3 reshape of nothing", RESHAPE, s(2, 3), -6, -6, -6, -6, -6, -6);
        y(s(2), 5, 6);
        x(s(), 3);
        gives("3 reshape", RESHAPE, s(3), 5, 6, 5);
        x(s(3), 2, 1, 2);
        gives("2 1 2 reshape", RESHAPE, s(2, 1, 2), 5, 6, 5, 6);
        x(s(0));
        gives("reshape to a scalar", RESHAPE, s(), 5);
        y(s(0));
        gives("reshape of nothing to a scalar", RESHAPE, s(), -6);
        y(s(2), 5, 6);
        x(s(3), 16, 0, 16);
        gives("16 0 16 reshape", RESHAPE, s(16, 0, 16));
        reshapeRefusals();
        reshapeAtRanks();
    }

    private static void reshapeRefusals() {
        x(s(2), 2, -1);
        refuses("2 -1 reshape", RESHAPE, DOMAIN);
        x(s(), LOW);
        refuses("lowest reshape", RESHAPE, DOMAIN);
        x(s(2), 99, -1);
        refuses("99 -1 reshape", RESHAPE, DOMAIN);
        x(s(4), 1, 1, 1, -1);
        refuses("1 1 1 -1 reshape", RESHAPE, DOMAIN);
        x(s(4), 1, 1, 1, 1);
        refuses("1 1 1 1 reshape", RESHAPE, LIMIT);
        x(s(16), 0, 0);
        refuses("reshape to rank 16", RESHAPE, LIMIT);
        x(s(), 17);
        refuses("17 reshape", RESHAPE, LIMIT);
        x(s(2), 0, 17);
        refuses("0 17 reshape", RESHAPE, LIMIT);
        x(s(2), 17, 0);
        refuses("17 0 reshape", RESHAPE, LIMIT);
        x(s(2), 6, 3);
        refuses("6 3 reshape", RESHAPE, LIMIT);
        x(s(3), 65536, 65536, 65536);
        refuses("65536 65536 65536 reshape", RESHAPE, LIMIT);
        x(s(2), HIGH, HIGH);
        refuses("highest reshape", RESHAPE, LIMIT);
        x(s(2), 4, 4);
        gives("4 4 reshape", RESHAPE, s(4, 4), 5, 6, 5, 6, 5, 6, 5, 6, 5, 6, 5, 6, 5, 6, 5, 6);
    }

    private static void reshapeAtRanks() {
        begin();
        x(s(2, 1), 1, 3);
        y(s(2), 5, 6);
        gives("a table of axes reshapes", RESHAPE, s(2, 3), 5, -6, -6, 5, 6, 5);
        engine.setRank(0, 0);
        x(s(2), 1, 3);
        gives("reshape at 0 0", RESHAPE, s(2, 3), 5, -6, -6, 6, 6, 6);
        // Inside the single cell of x the declared left rank makes rows again.
        engine.setRank(2, 1);
        x(s(2, 2), 1, 2, 2, 1);
        gives("reshape at 2 1", RESHAPE, s(2, 2, 2), 5, 6, -6, -6, 5, -6, 6, -6);
    }

    private static void take() {
        begin();
        y(s(3), 5, 6, 7);
        x(s(), 2);
        gives("2 take", TAKE, s(2), 5, 6);
        x(s(), -2);
        gives("-2 take", TAKE, s(2), 6, 7);
        x(s(), 0);
        gives("0 take", TAKE, s(0));
        x(s(), 5);
        gives("5 take", TAKE, s(5), 5, 6, 7, -6, -6);
        x(s(), -5);
        gives("-5 take", TAKE, s(5), -6, -6, 5, 6, 7);
        x(s(), 16);
        CHECK.due("16 take", engine.dyad(TAKE, 0, 1, 2), 16);
        x(s(), -16);
        CHECK.due("-16 take", engine.dyad(TAKE, 0, 1, 2), 16);
        for (int wanted : new int[] {17, -17, LOW, LOW + 1, HIGH}) {
            x(s(), wanted);
            refuses(wanted + " take", TAKE, LIMIT);
        }
        y(s(), 4);
        x(s(), 2);
        gives("2 take of a scalar", TAKE, s(2), 4, -6);
        x(s(), -2);
        gives("-2 take of a scalar", TAKE, s(2), -6, 4);
        takeItems();
    }

    private static void takeItems() {
        y(s(2, 3), 1, 2, 3, 4, 5, 6);
        x(s(), -1);
        gives("-1 take of a table", TAKE, s(1, 3), 4, 5, 6);
        x(s(), 3);
        gives("3 take of a table", TAKE, s(3, 3), 1, 2, 3, 4, 5, 6, -6, -6, -6);
        x(s(), 6);
        refuses("6 take of a table", TAKE, LIMIT);
        y(s(2, 1, 2), 1, 2, 3, 4);
        x(s(), 1);
        gives("1 take of rank 3", TAKE, s(1, 1, 2), 1, 2);
        y(s(0, 3));
        x(s(), -2);
        gives("-2 take of no rows", TAKE, s(2, 3), -6, -6, -6, -6, -6, -6);
        y(s(0, 16, 16));
        x(s(), 0);
        gives("0 take of no large tables", TAKE, s(0, 16, 16));
        x(s(), 1);
        refuses("1 take of no large tables", TAKE, LIMIT);
        y(s(2, 0), 1);
        x(s(), 16);
        gives("16 take of empty rows", TAKE, s(16, 0));
        x(s(), 17);
        refuses("17 take of empty rows", TAKE, LIMIT);
        x(s(2), 1, -2);
        y(s(2), 8, 9);
        gives("1 -2 take", TAKE, s(2, 2), 8, -6, 8, 9);
    }

    private static void from() {
        begin();
        y(s(3), 5, 6, 7);
        x(s(), 2);
        gives("2 from", FROM, s(), 7);
        x(s(), -3);
        gives("-3 from", FROM, s(), 5);
        x(s(2, 2), 0, -1, 1, 0);
        gives("a table from", FROM, s(2, 2), 5, 7, 6, 5);
        for (int index : new int[] {3, -4, LOW, HIGH}) {
            x(s(), index);
            refuses(index + " from", FROM, INDEX);
        }
        y(s(), 4);
        x(s(2), 0, -1);
        gives("0 -1 from a scalar", FROM, s(2), 4, 4);
        x(s(), 1);
        refuses("1 from a scalar", FROM, INDEX);
        x(s(), -2);
        refuses("-2 from a scalar", FROM, INDEX);
        y(s(2, 3), 1, 2, 3, 4, 5, 6);
        x(s(), 1);
        gives("1 from a table", FROM, s(3), 4, 5, 6);
        y(s(2, 2, 2));
        x(s(), -2);
        gives("-2 from rank 3", FROM, s(2, 2), 0, 1, 2, 3);
        y(s(0, 3));
        x(s(), 0);
        refuses("0 from no rows", FROM, INDEX);
        y(s(3, 0), 1);
        x(s(), 2);
        gives("2 from empty rows", FROM, s(0));
    }

    private static void emptyFrames() {
        begin();
        x(s(0));
        y(s(0, 3));
        gives("nothing plus nothing", PLUS, s(0, 3));
        y(s(), 5);
        gives("nothing plus a scalar", PLUS, s(0));
        y(s(2), 5, 6);
        refuses("nothing plus a list", PLUS, LENGTH);
        gives("nothing from a list, its error unsaid", FROM, s(0));
        gives("nothing take a list", TAKE, s(0, 6));
        y(s(2, 3));
        gives("nothing from a table, its error unsaid", FROM, s(0));
        engine.setFill(1);
        gives("nothing from a table", FROM, s(0, 3));
        engine.setFill(17);
        gives("nothing take a table, its error unsaid", TAKE, s(0));
        engine.setFill(2);
        y(s(2, 2, 2));
        refuses("nothing take rank 3", TAKE, LIMIT);
        x(s(0, 2));
        y(s(), 5);
        gives("nothing reshape", RESHAPE, s(0, 2, 2));
        engine.setFill(5);
        gives("nothing reshape, its error unsaid", RESHAPE, s(0));
        cellsOfEmptyFrames();
    }

    private static void cellsOfEmptyFrames() {
        begin();
        engine.setFill(0);
        x(s(0, 16, 16));
        y(s(), 5);
        engine.setRank(2, 3);
        gives("x cells with more atoms than the cap", PLUS, s(0));
        engine.setRank(1, 3);
        gives("x cells that fit", PLUS, s(0, 16, 16));
        x(s(), 5);
        y(s(0, 16, 16));
        engine.setRank(0, 2);
        gives("y cells with more atoms than the cap", PLUS, s(0));
        // The cells disagree with each other, and nobody hears of it.
        x(s(0, 2));
        y(s(0, 3));
        engine.setRank(1, 1);
        gives("cells that do not agree", PLUS, s(0));
        y(s(0, 2));
        gives("cells that agree", PLUS, s(0, 2));
    }

    private static void liftedCells() {
        begin();
        x(s(2, 2), 1, 2, 2, 1);
        y(s(2), 8, 9);
        gives("cells of two shapes", RESHAPE, s(2, 2, 2), 8, 9, -6, -6, 8, -6, 9, -6);
        x(s(2), 0, 1);
        gives("an empty cell beside a full one", TAKE, s(2, 1), -6, 8);
        x(s(3), 0, 0, 0);
        gives("empty cells alone", TAKE, s(3, 0));
        x(s(1, 2), 1, 1);
        y(s(1, 1), 8);
        refuses("frame and cells of rank 4", TAKE, LIMIT);
        x(s(1, 2), 2, 2);
        y(s(), 8);
        engine.setRank(2, 0);
        gives("take at rank 2", TAKE, s(1, 2, 2), 8, -6, 8, -6);
    }

    private static void errorsInOrder() {
        begin();
        y(s(2), 8, 9);
        x(s(3), 17, 1, LOW);
        refuses("17 1 lowest take", TAKE, LIMIT);
        x(s(2, 1), -1, 17);
        refuses("-1 then 17 reshape", RESHAPE, DOMAIN);
        x(s(2, 1), 17, -1);
        refuses("17 then -1 reshape", RESHAPE, LIMIT);
        // Both frames disagree and a cell is wrong: the frames are looked at first.
        x(s(2), -1, -1);
        y(s(3), 1, 2, 3);
        engine.setRank(0, 0);
        refuses("frames before cells", RESHAPE, LENGTH);
        // A cell's own error comes before the limit that the assembled cells would break.
        engine.clearRank();
        y(s(2, 8));
        x(s(3), 0, 1, 2);
        refuses("0 1 2 from two rows", FROM, INDEX);
        x(s(3), 0, 1, 1);
        refuses("0 1 1 from two rows", FROM, LIMIT);
        // As many positions as a frame can have.
        engine = new RankAgreement(32);
        y(s(32, 32, 0));
        x(s(), 0);
        engine.setRank(0, 1);
        refuses("0 from each of 1024 empty rows", FROM, INDEX);
        x(s(), 1);
        refuses("1 take each of 1024 empty rows", TAKE, LIMIT);
        x(s(), 0);
        gives("0 take each of 1024 empty rows", TAKE, s(32, 32, 0));
    }

    private static void wrongArguments() {
        begin();
        x(s(2), 1, 2);
        y(s(), 3);
        int[][] calls = {
            {5, 0, 1, 2}, {0, 0, 1, 2}, {13, 0, 1, 2}, {-1, 0, 1, 2}, {LOW, 0, 1, 2}, {HIGH, 0, 1, 2},
            {PLUS, -1, 1, 2}, {PLUS, 4, 1, 2}, {PLUS, 0, -1, 2}, {PLUS, 0, 4, 2},
            {FROM, 0, 1, -1}, {FROM, 0, 1, 4}, {FROM, LOW, 1, 2}, {FROM, 0, HIGH, 2}
        };
        for (int[] c : calls) {
            String name = "dyad(" + c[0] + ", " + c[1] + ", " + c[2] + ", " + c[3] + ")";
            CHECK.due(name, engine.dyad(c[0], c[1], c[2], c[3]), RankAgreement.ERR_ARG);
            CHECK.array(name, engine, 0, s(2), 1, 2);
            CHECK.array(name, engine, 1, s(), 3);
            CHECK.array(name, engine, 2, s(), 0);
        }
    }

    private static void destinations() {
        begin();
        x(s(2), 1, 2);
        y(s(2), 10, 20);
        engine.setRank(0, 1);
        CHECK.due("onto x", engine.dyad(PLUS, 0, 1, 0), 4);
        CHECK.array("onto x", engine, 0, s(2, 2), 11, 21, 12, 22);
        CHECK.array("onto x", engine, 1, s(2), 10, 20);
        x(s(2), 1, 2);
        CHECK.due("onto y", engine.dyad(PLUS, 0, 1, 1), 4);
        CHECK.array("onto y", engine, 1, s(2, 2), 11, 21, 12, 22);
        CHECK.array("onto y", engine, 0, s(2), 1, 2);
        CHECK.due("x is y", engine.dyad(TIMES, 0, 0, 3), 4);
        CHECK.array("x is y", engine, 3, s(2, 2), 1, 2, 2, 4);
        CHECK.due("all the same", engine.dyad(MINUS, 0, 0, 0), 4);
        CHECK.array("all the same", engine, 0, s(2, 2), 0, -1, 1, 0);
        CHECK.array("dyads", engine, 1, s(2, 2), 11, 21, 12, 22);
        CHECK.array("dyads", engine, 2, s(), 0);
        CHECK.due("dyads: fill()", engine.fill(), -6);
        CHECK.override("dyads", engine, true, 0, 1);
    }

    private static void errorsChangeNothing() {
        begin();
        x(s(3), 1, 2, 17);
        y(s(2), 4, 5);
        Check.put(engine, 2, s(1, 2), 6, 7);
        engine.scalar(3, 8);
        engine.setRank(0, 3);
        for (int verb : new int[] {TAKE, FROM}) {
            for (int dst = 0; dst < 4; dst++) {
                CHECK.due("verb " + verb, engine.dyad(verb, 0, 1, dst), verb == TAKE ? LIMIT : INDEX);
                CHECK.array("verb " + verb, engine, 0, s(3), 1, 2, 17);
                CHECK.array("verb " + verb, engine, 1, s(2), 4, 5);
                CHECK.array("verb " + verb, engine, 2, s(1, 2), 6, 7);
                CHECK.array("verb " + verb, engine, 3, s(), 8);
                CHECK.due("verb " + verb + ": fill()", engine.fill(), -6);
                CHECK.override("verb " + verb, engine, true, 0, 3);
            }
        }
    }
}
