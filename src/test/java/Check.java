/** Counts and prints the answers that are not the ones due. */
final class Check {
    private int wrong = 0;
    private int asked = 0;

    void due(String call, long got, long want) {
        asked++;
        if (got != want) {
            wrong++;
            System.out.println(call + " answered " + got + ", due is " + want);
        }
    }

    void due(String call, boolean got, boolean want) {
        due(call, got ? 1 : 0, want ? 1 : 0);
    }

    /** Asks for everything a register shows: rank, every axis, count, and every atom. */
    void array(String after, RankAgreement engine, int reg, int[] shape, int... atoms) {
        String name = after + ": register " + reg;
        due(name + " rank", engine.rank(reg), shape.length);
        for (int axis = 0; axis < 3; axis++) {
            due(name + " dim " + axis, engine.dim(reg, axis), axis < shape.length ? shape[axis] : -1);
        }
        due(name + " count", engine.count(reg), atoms.length);
        for (int i = 0; i < atoms.length; i++) {
            due(name + " atom " + i, engine.atom(reg, i), atoms[i]);
        }
        due(name + " atom behind the last", engine.atom(reg, atoms.length), 0);
    }

    void override(String after, RankAgreement engine, boolean active, int left, int right) {
        due(after + ": rankSetting(0)", engine.rankSetting(0), active ? 1 : 0);
        due(after + ": rankSetting(1)", engine.rankSetting(1), left);
        due(after + ": rankSetting(2)", engine.rankSetting(2), right);
    }

    int asked() {
        return asked;
    }

    static int[] shape(int... axes) {
        return axes;
    }

    /** Makes the register an array of this shape and sets its atoms one by one. */
    static void put(RankAgreement engine, int reg, int[] shape, int... atoms) {
        engine.make(
                reg,
                shape.length > 0 ? shape[0] : -1,
                shape.length > 1 ? shape[1] : -1,
                shape.length > 2 ? shape[2] : -1);
        for (int i = 0; i < atoms.length; i++) {
            engine.set(reg, i, atoms[i]);
        }
    }

    void finish() {
        System.out.println(asked + " answers asked for, " + wrong + " not as due");
        if (wrong != 0) {
            System.exit(1);
        }
    }
}
