import java.util.Arrays;

/**
 * An engine and the calls that the tests of single sentences make on it. Every call is also held
 * against the state before it: a refused call changes nothing, any other changes its dst alone.
 */
final class Bench {
    /** The registers that the arguments stand in and the one that the result goes to. */
    static final int X = 0;
    static final int Y = 1;
    static final int DST = 2;

    static final int LOW = Integer.MIN_VALUE;
    static final int HIGH = Integer.MAX_VALUE;

    private static final int STATE_OF_REGISTER = 5 + 32;

    private final Check check = new Check();
    private String sentence;
    private int askedBefore;
    RankAgreement engine;

    static int[] s(int... axes) {
        return axes;
    }

    /** From here on the answers are those of this sentence; each sentence must ask for some. */
    void sentence(String words) {
        endSentence();
        sentence = words;
    }

    private void endSentence() {
        if (sentence != null) {
            check.due("a test of \"" + sentence + "\"", check.asked() > askedBefore, true);
        }
        askedBefore = check.asked();
    }

    void finish() {
        endSentence();
        check.finish();
    }

    private String told(String name) {
        return "\"" + sentence + "\": " + name;
    }

    void due(String name, int got, int want) {
        check.due(told(name), got, want);
    }

    void due(String name, boolean got, boolean want) {
        check.due(told(name), got, want);
    }

    /** A new engine whose registers and settings differ from those of a new object. */
    void begin(int cap) {
        engine = new RankAgreement(cap);
        Check.put(engine, DST, s(1, 2), 71, 72);
        Check.put(engine, 3, s(3), 81, 82, 83);
        engine.setFill(-6);
    }

    void x(int[] shape, int... atoms) {
        Check.put(engine, X, shape, atoms);
    }

    void y(int[] shape, int... atoms) {
        Check.put(engine, Y, shape, atoms);
    }

    void holds(String name, int reg, int[] shape, int... atoms) {
        check.array(told(name), engine, reg, shape, atoms);
    }

    void override(String name, boolean active, int left, int right) {
        check.override(told(name), engine, active, left, right);
    }

    /** Everything that the public face shows. */
    int[] state() {
        int[] all = new int[4 * STATE_OF_REGISTER + 4];
        int at = 0;
        for (int reg = 0; reg < 4; reg++) {
            all[at++] = engine.rank(reg);
            for (int axis = 0; axis < 3; axis++) {
                all[at++] = engine.dim(reg, axis);
            }
            all[at++] = engine.count(reg);
            for (int i = 0; i < 32; i++) {
                all[at++] = engine.atom(reg, i);
            }
        }
        for (int side = 0; side < 3; side++) {
            all[at++] = engine.rankSetting(side);
        }
        all[at] = engine.fill();
        return all;
    }

    void unchanged(String name, int[] before) {
        due(name + " changes nothing", Arrays.equals(state(), before), true);
    }

    void onlyChanged(String name, int reg, int[] before) {
        int[] after = state();
        int start = reg * STATE_OF_REGISTER;
        System.arraycopy(before, start, after, start, STATE_OF_REGISTER);
        due(name + " changes register " + reg + " alone", Arrays.equals(after, before), true);
    }

    void monadGives(String name, int verb, int[] shape, int... atoms) {
        int[] before = state();
        due(name, engine.monad(verb, Y, DST), atoms.length);
        holds(name, DST, shape, atoms);
        onlyChanged(name, DST, before);
    }

    void monadRefused(String name, int verb, int error) {
        int[] before = state();
        for (int dst = 0; dst < 4; dst++) {
            due(name, engine.monad(verb, Y, dst), error);
            unchanged(name, before);
        }
    }

    void dyadGives(String name, int verb, int[] shape, int... atoms) {
        int[] before = state();
        due(name, engine.dyad(verb, X, Y, DST), atoms.length);
        holds(name, DST, shape, atoms);
        onlyChanged(name, DST, before);
    }

    void dyadRefused(String name, int verb, int error) {
        int[] before = state();
        for (int dst = 0; dst < 4; dst++) {
            due(name, engine.dyad(verb, X, Y, dst), error);
            unchanged(name, before);
        }
    }

    void makeRefused(int error, int reg, int d0, int d1, int d2) {
        String name = "make(" + reg + ", " + d0 + ", " + d1 + ", " + d2 + ")";
        int[] before = state();
        due(name, engine.make(reg, d0, d1, d2), error);
        unchanged(name, before);
    }

    /** A made array of this shape whose atoms count up from 0. */
    void makeGives(int reg, int d0, int d1, int d2, int... shape) {
        String name = "make(" + reg + ", " + d0 + ", " + d1 + ", " + d2 + ")";
        int[] before = state();
        int count = Arrays.stream(shape).reduce(1, (a, b) -> a * b);
        due(name, engine.make(reg, d0, d1, d2), count);
        holds(name, reg, shape, counting(count));
        onlyChanged(name, reg, before);
    }

    static int[] counting(int count) {
        int[] atoms = new int[count];
        Arrays.setAll(atoms, i -> i);
        return atoms;
    }

    static int[] repeated(int value, int count) {
        int[] atoms = new int[count];
        Arrays.fill(atoms, value);
        return atoms;
    }
}
