/** The boundary cases of the verbs' primitive meanings and of the LIMIT rule. */
public final class EdgesOfVerbsTest {
    private static final int DOMAIN = RankAgreement.ERR_DOMAIN;
    private static final int INDEX = RankAgreement.ERR_INDEX;
    private static final int LIMIT = RankAgreement.ERR_LIMIT;
    private static final int NEG = RankAgreement.NEG;
    private static final int IOTA = RankAgreement.IOTA;
    private static final int SHAPE = RankAgreement.SHAPE;
    private static final int REVERSE = RankAgreement.REVERSE;
    private static final int SUM = RankAgreement.SUM;
    private static final int RAVEL = RankAgreement.RAVEL;
    private static final int PLUS = RankAgreement.PLUS;
    private static final int MINUS = RankAgreement.MINUS;
    private static final int TIMES = RankAgreement.TIMES;
    private static final int MAX = RankAgreement.MAX;
    private static final int RESHAPE = RankAgreement.RESHAPE;
    private static final int TAKE = RankAgreement.TAKE;
    private static final int FROM = RankAgreement.FROM;
    private static final int LOW = Integer.MIN_VALUE;
    private static final int HIGH = Integer.MAX_VALUE;

    private static final Bench BENCH = new Bench();

    public static void main(String[] args) {
        primitiveRanks();
        wrapAround();
        negate();
        iotaBelowAndAtZero();
        iotaAtTheCap();
        shapeOf();
        reverse();
        sum();
        ravel();
        arithmetic();
        reshapeAxes();
        reshapeNegativeAxes();
        reshapeLimits();
        reshapeAtoms();
        takeItems();
        takeTooMany();
        takeShape();
        takeFromTheFront();
        takeFromTheBack();
        fromItems();
        fromOutside();
        fromInside();
        declaredRanks();
        limitRule();
        limitRuleJudgedMathematically();
        BENCH.finish();
    }

    private static int[] s(int... axes) {
        return axes;
    }

    private static void primitiveRanks() {
        BENCH.sentence("The primitive meaning P is only ever used on arguments whose ranks do not exceed the"
                + " declared ranks.");
        BENCH.begin(8);
        BENCH.engine.setRank(3, 3);
        BENCH.y(s(2, 2, 2));
        BENCH.monadGives("neg at rank 3", NEG, s(2, 2, 2), 0, -1, -2, -3, -4, -5, -6, -7);
        BENCH.y(s(2), 1, 2);
        BENCH.monadGives("iota at rank 3", IOTA, s(2, 2), 0, -6, 0, 1);
        BENCH.x(s(2), 10, 20);
        BENCH.dyadGives("plus at ranks 3 3", PLUS, s(2), 11, 22);
        BENCH.x(s(2, 1), 1, 2);
        BENCH.dyadGives("reshape at ranks 3 3", RESHAPE, s(2, 2), 1, -6, 1, 2);
        BENCH.x(s(2), -1, 2);
        BENCH.dyadGives("take at ranks 3 3", TAKE, s(2, 2), 2, -6, 1, 2);
        BENCH.x(s(3), -1, 1, 0);
        BENCH.dyadGives("from at ranks 3 3", FROM, s(3), 2, 2, 1);
    }

    private static void wrapAround() {
        BENCH.sentence("Arithmetic wraps as 32-bit two's complement, as Java int arithmetic does.");
        BENCH.begin(8);
        BENCH.y(s(3), LOW, HIGH, LOW + 1);
        BENCH.monadGives("neg", NEG, s(3), LOW, LOW + 1, HIGH);
        BENCH.monadGives("sum", SUM, s(), LOW);
        BENCH.y(s(2), LOW, LOW);
        BENCH.monadGives("sum of two lowest", SUM, s(), 0);
        BENCH.y(s(2), HIGH, HIGH);
        BENCH.monadGives("sum of two highest", SUM, s(), -2);
        pair(PLUS, HIGH, 1, LOW);
        pair(PLUS, LOW, -1, HIGH);
        pair(PLUS, LOW, LOW, 0);
        pair(MINUS, LOW, 1, HIGH);
        pair(MINUS, HIGH, -1, LOW);
        pair(MINUS, 0, LOW, LOW);
        pair(TIMES, 65536, 65536, 0);
        pair(TIMES, 46341, 46341, -2147479015);
        pair(TIMES, LOW, -1, LOW);
        pair(TIMES, HIGH, HIGH, 1);
    }

    private static void pair(int verb, int x, int y, int result) {
        BENCH.x(s(), x);
        BENCH.y(s(), y);
        BENCH.dyadGives(x + " verb " + verb + " " + y, verb, s(), result);
    }

    private static void negate() {
        BENCH.sentence("NEG (monad, rank 0): scalar -y.");
        BENCH.begin(8);
        BENCH.y(s(), 0);
        BENCH.monadGives("neg 0", NEG, s(), 0);
        BENCH.y(s(), -1);
        BENCH.monadGives("neg -1", NEG, s(), 1);
        BENCH.y(s(), HIGH);
        BENCH.monadGives("neg of the highest", NEG, s(), -HIGH);
        BENCH.y(s(0));
        BENCH.monadGives("neg of an empty list", NEG, s(0));
        BENCH.y(s(8, 0, 8));
        BENCH.monadGives("neg of an empty array of rank 3", NEG, s(8, 0, 8));
        BENCH.y(s(8));
        BENCH.monadGives("neg of a full list", NEG, s(8), 0, -1, -2, -3, -4, -5, -6, -7);
    }

    private static void iotaBelowAndAtZero() {
        BENCH.sentence("IOTA (monad, rank 0): if y < 0, DOMAIN error; else the list of shape [y] with atom i = i.");
        BENCH.begin(8);
        for (int below : new int[] {-1, -2, -9, LOW}) {
            BENCH.y(s(), below);
            BENCH.monadRefused("iota " + below, IOTA, DOMAIN);
        }
        BENCH.y(s(), 0);
        BENCH.monadGives("iota 0", IOTA, s(0));
        BENCH.y(s(), 1);
        BENCH.monadGives("iota 1", IOTA, s(1), 0);
        BENCH.y(s(), 3);
        BENCH.monadGives("iota 3", IOTA, s(3), 0, 1, 2);
    }

    private static void iotaAtTheCap() {
        BENCH.sentence("The LIMIT rule applies when y > cap.");
        for (int cap : new int[] {8, 9, 31, 32}) {
            BENCH.begin(cap);
            BENCH.y(s(), cap);
            BENCH.monadGives("iota of the cap", IOTA, s(cap), Bench.counting(cap));
            for (int above : new int[] {cap + 1, 65536, HIGH}) {
                BENCH.y(s(), above);
                BENCH.monadRefused("iota " + above, IOTA, LIMIT);
            }
        }
    }

    private static void shapeOf() {
        BENCH.sentence("list of shape [rank of y] holding y's axis lengths in order (for a scalar y the result is"
                + " the empty list: result shape [0], no atoms)");
        BENCH.begin(8);
        BENCH.y(s(), 5);
        BENCH.monadGives("scalar", SHAPE, s(0));
        BENCH.y(s(0));
        BENCH.monadGives("empty list", SHAPE, s(1), 0);
        BENCH.y(s(8));
        BENCH.monadGives("full list", SHAPE, s(1), 8);
        BENCH.y(s(2, 3));
        BENCH.monadGives("table", SHAPE, s(2), 2, 3);
        BENCH.y(s(8, 0, 7));
        BENCH.monadGives("empty array of rank 3", SHAPE, s(3), 8, 0, 7);
        BENCH.y(s(4, 1, 2));
        BENCH.monadGives("full array of rank 3", SHAPE, s(3), 4, 1, 2);
    }

    private static void reverse() {
        BENCH.sentence("rank 0 gives y itself; else the same shape, item j = item s0-1-j of y");
        BENCH.begin(8);
        BENCH.y(s(), 5);
        BENCH.monadGives("scalar", REVERSE, s(), 5);
        BENCH.y(s(1), 5);
        BENCH.monadGives("list of one", REVERSE, s(1), 5);
        BENCH.y(s(0));
        BENCH.monadGives("empty list", REVERSE, s(0));
        BENCH.y(s(0, 8, 8));
        BENCH.monadGives("no items, and large ones", REVERSE, s(0, 8, 8));
        BENCH.y(s(8, 0, 8));
        BENCH.monadGives("items without atoms", REVERSE, s(8, 0, 8));
        BENCH.y(s(8));
        BENCH.monadGives("full list", REVERSE, s(8), 7, 6, 5, 4, 3, 2, 1, 0);
        BENCH.y(s(3, 2));
        BENCH.monadGives("odd number of items", REVERSE, s(3, 2), 4, 5, 2, 3, 0, 1);
        BENCH.y(s(1, 2, 4));
        BENCH.monadGives("one item", REVERSE, s(1, 2, 4), 0, 1, 2, 3, 4, 5, 6, 7);
        BENCH.y(s(4, 1, 2));
        BENCH.monadGives("items of rank 2", REVERSE, s(4, 1, 2), 6, 7, 4, 5, 2, 3, 0, 1);
    }

    private static void sum() {
        BENCH.sentence("rank 0 gives y itself; else shape [s1..], atom i = wrapped sum over j of atom i of item j"
                + " (all atoms 0 when s0 = 0)");
        BENCH.begin(8);
        BENCH.y(s(), LOW);
        BENCH.monadGives("scalar", SUM, s(), LOW);
        BENCH.y(s(1), 5);
        BENCH.monadGives("list of one", SUM, s(), 5);
        BENCH.y(s(8));
        BENCH.monadGives("full list", SUM, s(), 28);
        BENCH.y(s(2, 2), HIGH, LOW, 1, -1);
        BENCH.monadGives("each column wraps", SUM, s(2), LOW, HIGH);
        BENCH.y(s(0));
        BENCH.monadGives("empty list", SUM, s(), 0);
        BENCH.y(s(0, 3));
        BENCH.monadGives("no rows", SUM, s(3), 0, 0, 0);
        BENCH.y(s(0, 2, 4));
        BENCH.monadGives("no tables as large as the cap", SUM, s(2, 4), 0, 0, 0, 0, 0, 0, 0, 0);
        BENCH.y(s(0, 3, 3));
        BENCH.monadRefused("no tables larger than the cap", SUM, LIMIT);
        BENCH.y(s(0, 8, 8));
        BENCH.monadRefused("no tables far larger than the cap", SUM, LIMIT);
        BENCH.y(s(0, 8, 0));
        BENCH.monadGives("no tables without atoms", SUM, s(8, 0));
        BENCH.y(s(8, 0));
        BENCH.monadGives("rows without atoms", SUM, s(0));
    }

    private static void ravel() {
        BENCH.sentence("list of shape [count] with the atoms of y in order");
        BENCH.begin(8);
        BENCH.y(s(), -5);
        BENCH.monadGives("scalar", RAVEL, s(1), -5);
        BENCH.y(s(2, 2, 2));
        BENCH.monadGives("full array", RAVEL, s(8), 0, 1, 2, 3, 4, 5, 6, 7);
        for (int[] empty : new int[][] {s(0), s(8, 0), s(0, 8, 8), s(8, 8, 0)}) {
            BENCH.y(empty);
            BENCH.monadGives("empty array", RAVEL, s(0));
        }
    }

    private static void arithmetic() {
        BENCH.sentence("PLUS, MINUS, TIMES, MAX (dyads, ranks 0 0): scalar x+y, x-y, x*y, the larger of x and y.");
        BENCH.begin(8);
        pair(PLUS, 3, -4, -1);
        pair(MINUS, 3, -4, 7);
        pair(TIMES, 3, -4, -12);
        pair(MAX, 3, 4, 4);
        pair(MAX, 4, 3, 4);
        pair(MAX, -3, -3, -3);
        // Their difference wraps around, the larger one is the larger one.
        pair(MAX, LOW, HIGH, HIGH);
        pair(MAX, HIGH, LOW, HIGH);
        pair(MAX, LOW, 1, 1);
        pair(MAX, -2, HIGH, HIGH);
        BENCH.x(s(0));
        BENCH.y(s(0));
        for (int verb : new int[] {PLUS, MINUS, TIMES, MAX}) {
            BENCH.dyadGives("empty lists", verb, s(0));
        }
    }

    private static void reshapes(int[] axes, int[] shape, int... atoms) {
        BENCH.x(s(axes.length), axes);
        BENCH.dyadGives("reshape", RESHAPE, shape, atoms);
    }

    private static void reshapeRefused(int error, int... axes) {
        BENCH.x(s(axes.length), axes);
        BENCH.dyadRefused("reshape " + java.util.Arrays.toString(axes), RESHAPE, error);
    }

    private static void reshapeAxes() {
        BENCH.sentence("x (rank 0 treated as a list) gives the new axes in order.");
        BENCH.begin(8);
        BENCH.y(s(2), 5, 6);
        BENCH.x(s(), 3);
        BENCH.dyadGives("scalar x", RESHAPE, s(3), 5, 6, 5);
        reshapes(s(), s(), 5);
        reshapes(s(3), s(3), 5, 6, 5);
        reshapes(s(3, 1), s(3, 1), 5, 6, 5);
        reshapes(s(1, 2, 3), s(1, 2, 3), 5, 6, 5, 6, 5, 6);
        BENCH.x(s(), 0);
        BENCH.dyadGives("scalar 0", RESHAPE, s(0));
        BENCH.x(s(), 9);
        BENCH.dyadRefused("scalar 9", RESHAPE, LIMIT);
        BENCH.x(s(), -1);
        BENCH.dyadRefused("scalar -1", RESHAPE, DOMAIN);
    }

    private static void reshapeNegativeAxes() {
        BENCH.sentence("If any of them is negative: DOMAIN error.");
        BENCH.begin(8);
        BENCH.y(s(2), 5, 6);
        reshapeRefused(DOMAIN, -1);
        reshapeRefused(DOMAIN, LOW);
        reshapeRefused(DOMAIN, -1, 2, 2);
        reshapeRefused(DOMAIN, 2, -1, 2);
        reshapeRefused(DOMAIN, 2, 2, -1);
        // Two negative axes have a small product, and a 0 makes every product 0.
        reshapeRefused(DOMAIN, -2, -2);
        reshapeRefused(DOMAIN, 0, -1);
        reshapeRefused(DOMAIN, -1, 0);
        // Looked at before the limits: an axis, the count and the rank that break them.
        reshapeRefused(DOMAIN, 9, -1);
        reshapeRefused(DOMAIN, 8, 8, -1);
        reshapeRefused(DOMAIN, 1, 1, 1, -1);
        reshapeRefused(DOMAIN, 1, 1, 1, 1, 1, 1, 1, -1);
        // The axes of a refused call do not count in the next one.
        reshapeRefused(DOMAIN, 2, 2, -1);
        reshapes(s(2, 2), s(2, 2), 5, 6, 5, 6);
        reshapes(s(), s(), 5);
    }

    private static void reshapeLimits() {
        BENCH.sentence("Else the result has shape x (rank = length of x; the LIMIT rule applies)");
        BENCH.begin(8);
        BENCH.y(s(), 5);
        reshapes(s(8), s(8), 5, 5, 5, 5, 5, 5, 5, 5);
        reshapes(s(2, 4), s(2, 4), 5, 5, 5, 5, 5, 5, 5, 5);
        reshapes(s(2, 2, 2), s(2, 2, 2), 5, 5, 5, 5, 5, 5, 5, 5);
        reshapes(s(0, 8, 8), s(0, 8, 8));
        reshapes(s(8, 8, 0), s(8, 8, 0));
        reshapeRefused(LIMIT, 9);
        reshapeRefused(LIMIT, 3, 3);
        reshapeRefused(LIMIT, 2, 2, 3);
        reshapeRefused(LIMIT, 8, 8, 8);
        reshapeRefused(LIMIT, 0, 9);
        reshapeRefused(LIMIT, 9, 0);
        reshapeRefused(LIMIT, 0, 0, 9);
        reshapeRefused(LIMIT, 1, 1, 1, 1);
        reshapeRefused(LIMIT, 0, 0, 0, 0);
        reshapeRefused(LIMIT, 1, 1, 1, 1, 1, 1, 1, 1);
    }

    private static void reshapeAtoms() {
        BENCH.sentence("atom i = atom (i mod n) of y, where n = count of y, or the fill value if n = 0");
        BENCH.begin(8);
        BENCH.y(s(), 4);
        reshapes(s(3), s(3), 4, 4, 4);
        BENCH.y(s(3), 4, 5, 6);
        reshapes(s(2), s(2), 4, 5);
        reshapes(s(3), s(3), 4, 5, 6);
        reshapes(s(4), s(4), 4, 5, 6, 4);
        reshapes(s(8), s(8), 4, 5, 6, 4, 5, 6, 4, 5);
        reshapes(s(0), s(0));
        BENCH.y(s(8));
        reshapes(s(2, 4), s(2, 4), 0, 1, 2, 3, 4, 5, 6, 7);
        reshapes(s(), s(), 0);
        for (int[] empty : new int[][] {s(0), s(3, 0), s(0, 8, 8)}) {
            BENCH.y(empty);
            reshapes(s(3), s(3), -6, -6, -6);
            reshapes(s(), s(), -6);
            reshapes(s(8), s(8), -6, -6, -6, -6, -6, -6, -6, -6);
            reshapes(s(2, 0), s(2, 0));
        }
    }

    private static void takes(int wanted, int[] shape, int... atoms) {
        BENCH.x(s(), wanted);
        BENCH.dyadGives(wanted + " take", TAKE, shape, atoms);
    }

    private static void takeRefused(int wanted) {
        BENCH.x(s(), wanted);
        BENCH.dyadRefused(wanted + " take", TAKE, LIMIT);
    }

    private static void takeItems() {
        BENCH.sentence("y (rank 0 treated as a list) has len items of shape T.");
        BENCH.begin(8);
        BENCH.y(s(), 4);
        takes(0, s(0));
        takes(1, s(1), 4);
        takes(-1, s(1), 4);
        takes(3, s(3), 4, -6, -6);
        takes(-3, s(3), -6, -6, 4);
        takes(8, s(8), 4, -6, -6, -6, -6, -6, -6, -6);
        takeRefused(9);
    }

    private static void takeTooMany() {
        BENCH.sentence("Let m = |x| mathematically; if m > cap: LIMIT error.");
        for (int cap : new int[] {8, 9, 31, 32}) {
            BENCH.begin(cap);
            BENCH.y(s(cap));
            takes(cap, s(cap), Bench.counting(cap));
            takes(-cap, s(cap), Bench.counting(cap));
            // Items without atoms do not make room for more of them.
            for (int[] shape : new int[][] {s(cap), s(), s(2, 0), s(0)}) {
                BENCH.y(shape);
                for (int wanted : new int[] {cap + 1, -cap - 1, 65536, -65536, HIGH, -HIGH, LOW}) {
                    takeRefused(wanted);
                }
            }
        }
    }

    private static void takeShape() {
        BENCH.sentence("The result shape is [m] followed by T.");
        BENCH.begin(8);
        BENCH.y(s(3, 2));
        takes(0, s(0, 2));
        takes(4, s(4, 2), 0, 1, 2, 3, 4, 5, -6, -6);
        takeRefused(5);
        takeRefused(-5);
        BENCH.y(s(2, 2, 2));
        takes(0, s(0, 2, 2));
        takes(2, s(2, 2, 2), 0, 1, 2, 3, 4, 5, 6, 7);
        takeRefused(3);
        takeRefused(-3);
        BENCH.y(s(2, 0, 8));
        takes(8, s(8, 0, 8));
        takes(-8, s(8, 0, 8));
        // No items, but large ones: none of them can be taken, nothing can.
        BENCH.y(s(0, 8, 8));
        takes(0, s(0, 8, 8));
        takeRefused(1);
        takeRefused(-1);
    }

    private static void takeFromTheFront() {
        BENCH.sentence("If x >= 0, item k = item k of y when k < len, else the fill array of shape T.");
        BENCH.begin(8);
        BENCH.y(s(3), 7, 8, 9);
        takes(0, s(0));
        takes(1, s(1), 7);
        takes(2, s(2), 7, 8);
        takes(3, s(3), 7, 8, 9);
        takes(4, s(4), 7, 8, 9, -6);
        takes(8, s(8), 7, 8, 9, -6, -6, -6, -6, -6);
        BENCH.y(s(2, 2));
        takes(1, s(1, 2), 0, 1);
        takes(2, s(2, 2), 0, 1, 2, 3);
        takes(3, s(3, 2), 0, 1, 2, 3, -6, -6);
        BENCH.y(s(0));
        takes(0, s(0));
        takes(2, s(2), -6, -6);
        BENCH.y(s(0, 2));
        takes(0, s(0, 2));
        takes(2, s(2, 2), -6, -6, -6, -6);
    }

    private static void takeFromTheBack() {
        BENCH.sentence("If x < 0, item k = item len-m+k of y when len-m+k >= 0, else the fill array of shape T.");
        BENCH.begin(8);
        BENCH.y(s(3), 7, 8, 9);
        takes(-1, s(1), 9);
        takes(-2, s(2), 8, 9);
        takes(-3, s(3), 7, 8, 9);
        takes(-4, s(4), -6, 7, 8, 9);
        takes(-8, s(8), -6, -6, -6, -6, -6, 7, 8, 9);
        BENCH.y(s(2, 2));
        takes(-1, s(1, 2), 2, 3);
        takes(-2, s(2, 2), 0, 1, 2, 3);
        takes(-3, s(3, 2), -6, -6, 0, 1, 2, 3);
        BENCH.y(s(0));
        takes(-2, s(2), -6, -6);
        BENCH.y(s(0, 2));
        takes(-2, s(2, 2), -6, -6, -6, -6);
    }

    private static void fromGives(int index, int[] shape, int... atoms) {
        BENCH.x(s(), index);
        BENCH.dyadGives(index + " from", FROM, shape, atoms);
    }

    private static void fromRefused(int... indices) {
        for (int index : indices) {
            BENCH.x(s(), index);
            BENCH.dyadRefused(index + " from", FROM, INDEX);
        }
    }

    private static void fromItems() {
        BENCH.sentence("FROM (dyad, ranks 0 INF): y (rank 0 treated as a list) has len items.");
        BENCH.begin(8);
        BENCH.y(s(), 4);
        fromGives(0, s(), 4);
        fromGives(-1, s(), 4);
        fromRefused(1, -2);
        BENCH.y(s(1), 4);
        fromGives(0, s(), 4);
        fromRefused(1, -2);
        // The items count, not the atoms.
        BENCH.y(s(2, 3));
        fromRefused(2, -3);
        BENCH.y(s(3, 2));
        fromGives(2, s(2), 4, 5);
        fromRefused(3, -4);
    }

    private static void fromOutside() {
        BENCH.sentence("If x < -len or x >= len: INDEX error.");
        BENCH.begin(8);
        BENCH.y(s(3), 7, 8, 9);
        fromGives(2, s(), 9);
        fromGives(-3, s(), 7);
        fromRefused(3, 4, -4, -5, 9, HIGH, LOW, LOW + 3);
        BENCH.y(s(8));
        fromGives(7, s(), 7);
        fromGives(-8, s(), 0);
        fromRefused(8, -9);
        BENCH.y(s(), 4);
        fromGives(0, s(), 4);
        fromGives(-1, s(), 4);
        fromRefused(1, -2, HIGH, LOW);
        // Nothing to choose from, whatever an item would look like.
        for (int[] empty : new int[][] {s(0), s(0, 3), s(0, 8, 8)}) {
            BENCH.y(empty);
            fromRefused(0, -1, 1, HIGH, LOW);
        }
        BENCH.y(s(2, 0));
        fromGives(1, s(0));
        fromGives(-2, s(0));
        fromRefused(2, -3);
    }

    private static void fromInside() {
        BENCH.sentence("Else the result is item x of y if x >= 0, item len+x otherwise.");
        BENCH.begin(8);
        BENCH.y(s(3), 7, 8, 9);
        fromGives(0, s(), 7);
        fromGives(1, s(), 8);
        fromGives(-1, s(), 9);
        fromGives(-2, s(), 8);
        BENCH.y(s(2, 2, 2));
        fromGives(0, s(2, 2), 0, 1, 2, 3);
        fromGives(1, s(2, 2), 4, 5, 6, 7);
        fromGives(-1, s(2, 2), 4, 5, 6, 7);
        fromGives(-2, s(2, 2), 0, 1, 2, 3);
        BENCH.y(s(8, 0, 8));
        fromGives(7, s(0, 8));
        fromGives(-8, s(0, 8));
    }

    private static void declaredRanks() {
        BENCH.sentence("Declared ranks: NEG 0, IOTA 0, SHAPE 3, REVERSE 3, SUM 3, RAVEL 3; PLUS, MINUS, TIMES,"
                + " MAX left 0 right 0; RESHAPE left 1 right 3; TAKE left 0 right 3; FROM left 0 right 3.");
        BENCH.begin(8);
        BENCH.y(s(2, 2, 2));
        BENCH.monadGives("neg", NEG, s(2, 2, 2), 0, -1, -2, -3, -4, -5, -6, -7);
        BENCH.monadRefused("iota", IOTA, LIMIT);
        BENCH.monadGives("shape", SHAPE, s(3), 2, 2, 2);
        BENCH.monadGives("reverse", REVERSE, s(2, 2, 2), 4, 5, 6, 7, 0, 1, 2, 3);
        BENCH.monadGives("sum", SUM, s(2, 2), 4, 6, 8, 10);
        BENCH.monadGives("ravel", RAVEL, s(8), 0, 1, 2, 3, 4, 5, 6, 7);
        BENCH.x(s(2), 10, 20);
        BENCH.dyadGives("plus", PLUS, s(2, 2, 2), 10, 11, 12, 13, 24, 25, 26, 27);
        BENCH.dyadGives("minus", MINUS, s(2, 2, 2), 10, 9, 8, 7, 16, 15, 14, 13);
        BENCH.dyadGives("times", TIMES, s(2, 2, 2), 0, 10, 20, 30, 80, 100, 120, 140);
        BENCH.x(s(2), 2, 5);
        BENCH.dyadGives("max", MAX, s(2, 2, 2), 2, 2, 2, 3, 5, 5, 6, 7);
        BENCH.x(s(2, 1), 3, 2);
        BENCH.dyadGives("reshape", RESHAPE, s(2, 3), 0, 1, 2, 0, 1, -6);
        BENCH.x(s(), 1);
        BENCH.dyadGives("take", TAKE, s(1, 2, 2), 0, 1, 2, 3);
        BENCH.dyadGives("from", FROM, s(2, 2), 4, 5, 6, 7);
        // Frames that would not agree if y were split, and x cells that would not be scalars.
        BENCH.x(s(3), 1, 0, 1);
        BENCH.y(s(2), 7, 8);
        BENCH.dyadGives("take by a list", TAKE, s(3, 1), 7, -6, 7);
        BENCH.dyadGives("from by a list", FROM, s(3), 8, 7, 8);
        BENCH.dyadGives("reshape by a list", RESHAPE, s(1, 0, 1));
        BENCH.dyadRefused("plus of a list", PLUS, RankAgreement.ERR_LENGTH);
    }

    private static void limitRule() {
        BENCH.sentence("Whenever P or an application A would give an array breaking the LIMITS (..), that is a LIMIT"
                + " error instead.");
        BENCH.begin(8);
        // P: an index list, a sum of large items, a reshape, a take.
        BENCH.y(s(), 9);
        BENCH.monadRefused("iota 9", IOTA, LIMIT);
        BENCH.y(s(0, 3, 3));
        BENCH.monadRefused("sum of nothing", SUM, LIMIT);
        BENCH.y(s(2, 2));
        reshapeRefused(LIMIT, 3, 3);
        takeRefused(5);
        // A: every cell keeps the limits, and the result has too many axes or atoms.
        BENCH.y(s(2, 2), 0, 0, 0, 0);
        BENCH.engine.setRank(0, 0);
        BENCH.monadGives("shape of atoms", SHAPE, s(2, 2, 0));
        BENCH.y(s(2, 2, 2));
        BENCH.monadRefused("shape of atoms at rank 3", SHAPE, LIMIT);
        BENCH.monadRefused("ravel of atoms at rank 3", RAVEL, LIMIT);
        BENCH.y(s(3, 3, 0));
        BENCH.engine.setRank(0, 1);
        BENCH.monadRefused("nine sums of nothing", SUM, LIMIT);
        BENCH.y(s(2, 4, 0));
        BENCH.monadGives("eight sums of nothing", SUM, s(2, 4), 0, 0, 0, 0, 0, 0, 0, 0);
        // A inside B: a cell of the override breaks them while the next one has another error.
        BENCH.engine.clearRank();
        BENCH.y(s(2, 2), 5, 5, -1, 0);
        BENCH.monadRefused("iota atom by atom", IOTA, DOMAIN);
        BENCH.engine.setRank(0, 1);
        BENCH.monadRefused("iota row by row", IOTA, LIMIT);
    }

    private static void limitRuleJudgedMathematically() {
        BENCH.sentence("Whenever P or an application A would give an array breaking the LIMITS (judged"
                + " mathematically), that is a LIMIT error instead.");
        BENCH.begin(32);
        BENCH.y(s(), 5);
        // Products that wrap to 0, to 1 or to a negative number; 2 to the 64 does so in a long too.
        reshapeRefused(LIMIT, 65536, 65536);
        reshapeRefused(LIMIT, 2048, 2048, 1024);
        reshapeRefused(LIMIT, HIGH, HIGH);
        reshapeRefused(LIMIT, 46341, 46341);
        reshapeRefused(LIMIT, 65537, 65521);
        reshapeRefused(LIMIT, 4194304, 4194304, 1048576);
        reshapeRefused(LIMIT, HIGH, HIGH, HIGH);
        reshapeRefused(LIMIT, HIGH, 0, HIGH);
        BENCH.y(s(), HIGH);
        BENCH.monadRefused("iota of the highest", IOTA, LIMIT);
        takeRefused(LOW);
        // A frame of 32 32 and cells of rank 1 or none.
        BENCH.y(s(32, 32, 0));
        BENCH.engine.setRank(0, 1);
        BENCH.monadRefused("1024 sums of nothing", SUM, LIMIT);
        BENCH.monadRefused("1024 shapes of nothing", SHAPE, LIMIT);
        BENCH.monadGives("1024 times nothing", RAVEL, s(32, 32, 0));
    }
}
