/** Holds RankAgreement against the model of the document, over many shapes and over long runs. */
public final class ModelTest {
    private static final int[][] SHAPES = {
        {}, {0}, {1}, {2}, {3}, {8}, {0, 3}, {2, 0}, {1, 2}, {2, 1}, {2, 3}, {3, 2}, {0, 0}, {8, 8, 0},
        {0, 8, 8}, {8, 0, 8}, {2, 0, 3}, {2, 3, 0}, {0, 2, 3}, {0, 3, 4}, {1, 2, 3}, {2, 2, 2}, {2, 1, 3}
    };
    private static final int[] RANKS = {
        -3, -2, -1, 0, 1, 2, 3, Integer.MIN_VALUE, Integer.MAX_VALUE
    };
    private static final int[][] VALUES = {
        {1}, {0, 1, 2}, {2, 0, 3, 1}, {-1, 1, -3}, {2, 2, 9}, {Integer.MIN_VALUE, Integer.MAX_VALUE}
    };
    private static final int[] FILLS = {0, 3, -1, 9};

    private final Check check = new Check();
    private RankAgreement engine;
    private Model model;
    private int seed = 1;

    public static void main(String[] args) {
        ModelTest test = new ModelTest();
        test.everyMonad();
        test.everyDyad();
        for (int run = 0; run < 2000; run++) {
            test.longRun(run);
        }
        test.check.finish();
    }

    private void begin(int cap) {
        engine = new RankAgreement(cap);
        model = new Model(cap);
    }

    private void setFill(int value) {
        engine.setFill(value);
        model.fill = value;
    }

    private void setRank(int left, int right) {
        engine.setRank(left, right);
        model.active = true;
        model.left = left;
        model.right = right;
    }

    private void clearRank() {
        engine.clearRank();
        model.active = false;
        model.left = 0;
        model.right = 0;
    }

    private void put(int reg, int[] shape, int[] values) {
        int d0 = shape.length > 0 ? shape[0] : -1;
        int d1 = shape.length > 1 ? shape[1] : -1;
        int d2 = shape.length > 2 ? shape[2] : -1;
        engine.make(reg, d0, d1, d2);
        model.make(reg, d0, d1, d2);
        for (int i = 0; i < engine.count(reg); i++) {
            engine.set(reg, i, values[i % values.length]);
            model.set(reg, i, values[i % values.length]);
        }
    }

    private void sameRegister(String after, int reg) {
        Model.Arr want = model.regs[reg];
        int[] shape = want.shape.stream().mapToInt(Long::intValue).toArray();
        check.array(after, engine, reg, shape, want.atoms);
    }

    private void sameState(String after) {
        for (int reg = 0; reg < 4; reg++) {
            sameRegister(after, reg);
        }
        check.due(after + ": fill()", engine.fill(), model.fill);
        check.override(after, engine, model.active, model.left, model.right);
    }

    private void sameMonad(String before, int verb, int y, int dst) {
        String call = before + "monad(" + verb + ", " + y + ", " + dst + ")";
        check.due(call, engine.monad(verb, y, dst), model.monad(verb, y, dst));
        sameRegister(call, dst & 3);
    }

    private void sameDyad(String before, int verb, int x, int y, int dst) {
        String call = before + "dyad(" + verb + ", " + x + ", " + y + ", " + dst + ")";
        check.due(call, engine.dyad(verb, x, y, dst), model.dyad(verb, x, y, dst));
        sameRegister(call, dst & 3);
    }

    private void everyMonad() {
        begin(8);
        for (int fill : FILLS) {
            setFill(fill);
            for (int[] shape : SHAPES) {
                for (int[] values : VALUES) {
                    put(0, shape, values);
                    for (int verb = 0; verb <= 5; verb++) {
                        clearRank();
                        sameMonad(told(fill, shape, values) + "declared: ", verb, 0, 1);
                        for (int right : RANKS) {
                            setRank(7, right);
                            sameMonad(told(fill, shape, values) + "rank " + right + ": ", verb, 0, 1);
                        }
                    }
                }
            }
        }
    }

    private void everyDyad() {
        begin(8);
        int[] yValues = {5, -2, 7, 0};
        for (int fill : FILLS) {
            setFill(fill);
            for (int[] xShape : SHAPES) {
                for (int[] values : VALUES) {
                    put(0, xShape, values);
                    for (int[] yShape : SHAPES) {
                        put(1, yShape, yValues);
                        everyDyadOn(told(fill, xShape, values) + told(fill, yShape, yValues));
                    }
                }
            }
        }
    }

    private void everyDyadOn(String before) {
        for (int verb : new int[] {7, 10, 11, 12}) {
            clearRank();
            sameDyad(before + "declared: ", verb, 0, 1, 2);
            for (int left : RANKS) {
                int right = RANKS[next(RANKS.length)];
                setRank(left, right);
                sameDyad(before + "ranks " + left + " " + right + ": ", verb, 0, 1, 2);
            }
        }
    }

    private static String told(int fill, int[] shape, int[] values) {
        return "fill " + fill + " shape " + java.util.Arrays.toString(shape)
                + " of " + java.util.Arrays.toString(values) + ": ";
    }

    /** The same numbers in every run of the tests: a fault that is found stays found. */
    private int next(int bound) {
        seed = seed * 1103515245 + 12345;
        return (seed >>> 16) % bound;
    }

    private int smallOrWild() {
        switch (next(12)) {
            case 0:
                return Integer.MIN_VALUE + next(2);
            case 1:
                return Integer.MAX_VALUE - next(2);
            case 2:
                return next(80) - 40;
            default:
                return next(7) - 2;
        }
    }

    /** Mostly a register; now and then none. */
    private int register() {
        return next(40) == 0 ? (next(2) == 0 ? -1 : 4) : next(4);
    }

    private void longRun(int run) {
        begin(next(40));
        for (int step = 0; step < 60; step++) {
            String before = "run " + run + " step " + step + ": ";
            randomCall(before);
            sameState(before);
        }
    }

    private void randomCall(String before) {
        int reg = register();
        int value = smallOrWild();
        switch (next(10)) {
            case 0:
                int d0 = next(6) - 1;
                int d1 = next(6) - 2;
                int d2 = next(6) - 3;
                check.due(before + "make", engine.make(reg, d0, d1, d2), model.make(reg, d0, d1, d2));
                break;
            case 1:
                check.due(before + "scalar", engine.scalar(reg, value), model.scalar(reg, value));
                break;
            case 2:
                int index = next(10) - 1;
                check.due(before + "set", engine.set(reg, index, value), model.set(reg, index, value));
                break;
            case 3:
                setFill(value);
                break;
            case 4:
                setRank(smallOrWild(), value);
                break;
            case 5:
                clearRank();
                break;
            case 6:
            case 7:
                sameMonad(before, next(7), reg, register());
                break;
            default:
                sameDyad(before, 5 + next(9), reg, register(), register());
        }
    }
}
