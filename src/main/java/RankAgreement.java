public final class RankAgreement {
    public static final int ERR_LENGTH = -1;
    public static final int ERR_DOMAIN = -2;
    public static final int ERR_INDEX = -3;
    public static final int ERR_LIMIT = -4;
    public static final int ERR_ARG = -5;

    public static final int REGS = 4;
    public static final int RANK_INF = 3;
    public static final int MIN_CAP = 8;
    public static final int MAX_CAP = 32;

    public static final int NEG = 0;
    public static final int IOTA = 1;
    public static final int SHAPE = 2;
    public static final int REVERSE = 3;
    public static final int SUM = 4;
    public static final int RAVEL = 5;
    public static final int PLUS = 6;
    public static final int MINUS = 7;
    public static final int TIMES = 8;
    public static final int MAX = 9;
    public static final int RESHAPE = 10;
    public static final int TAKE = 11;
    public static final int FROM = 12;

    private static final int NO_ERROR = 0;
    private static final int MAX_RANK = 3;

    // The application a call asks for is OUTER; the one at declared ranks inside each of its
    // cells is INNER. There is never a third: the cells of INNER fit the declared ranks.
    private static final int OUTER = 0;
    private static final int INNER = 1;
    private static final int LEVELS = 2;

    // Every array lives in a numbered slot. The registers come first, so that a register's
    // number is its slot; X_CELL, Y_CELL and RESULT have one slot for each level.
    private static final int X_CELL = REGS;
    private static final int Y_CELL = X_CELL + LEVELS;
    private static final int RESULT = Y_CELL + LEVELS;
    // Right behind RESULT + INNER, so that the result cell of a level is always RESULT + level + 1.
    private static final int ANSWER = RESULT + LEVELS;
    // A scalar that stands in for the x a monad has not: its empty frame agrees with every frame.
    private static final int NO_X = ANSWER + 1;
    private static final int SLOTS = NO_X + 1;
    private static final int ALL_DIMS = SLOTS * MAX_RANK;
    private static final int ALL_ATOMS = SLOTS * MAX_CAP;
    private static final int ALL_WIDTHS = LEVELS * MAX_RANK;

    // The arguments and the result of a primitive.
    private static final int ARG_X = X_CELL + INNER;
    private static final int ARG_Y = Y_CELL + INNER;
    private static final int ARG_X_ATOMS = ARG_X * MAX_CAP;
    private static final int ARG_Y_ATOMS = ARG_Y * MAX_CAP;
    private static final int ANSWER_ATOMS = ANSWER * MAX_CAP;

    private final int[] ranks = new int[SLOTS];
    private final int[] dims = new int[ALL_DIMS];
    private final int[] atoms = new int[ALL_ATOMS];

    // What an application knows of its arguments, by level.
    private final int[] xSlots = new int[LEVELS];
    private final int[] ySlots = new int[LEVELS];
    private final int[] xFrameRanks = new int[LEVELS];
    private final int[] yFrameRanks = new int[LEVELS];
    // The common frame is the first frameRanks axes of the array in the slot frameSlots.
    private final int[] frameSlots = new int[LEVELS];
    private final int[] frameRanks = new int[LEVELS];
    // The largest rank and the axis-wise maximum of the result cells, these lifted to MAX_RANK.
    private final int[] widestRanks = new int[LEVELS];
    private final int[] widths = new int[ALL_WIDTHS];

    private final int cap;
    private int fillValue;
    private boolean overrideActive;
    private int overrideLeft;
    private int overrideRight;

    public RankAgreement(int cap) {
        this.cap = cap < MIN_CAP ? MIN_CAP : cap > MAX_CAP ? MAX_CAP : cap;
    }

    public int make(int reg, int d0, int d1, int d2) {
        if (!isRegister(reg)) {
            return ERR_ARG;
        }
        if (d0 < 0 && d1 >= 0 || d1 < 0 && d2 >= 0) {
            return ERR_ARG;
        }
        if (d0 > cap || d1 > cap || d2 > cap) {
            return ERR_LIMIT;
        }
        int total = (d0 < 0 ? 1 : d0) * (d1 < 0 ? 1 : d1) * (d2 < 0 ? 1 : d2);
        if (total > cap) {
            return ERR_LIMIT;
        }
        ranks[reg] = d0 < 0 ? 0 : d1 < 0 ? 1 : d2 < 0 ? 2 : 3;
        dims[reg * MAX_RANK] = d0;
        dims[reg * MAX_RANK + 1] = d1;
        dims[reg * MAX_RANK + 2] = d2;
        for (int i = 0; i < total; i++) {
            atoms[reg * MAX_CAP + i] = i;
        }
        return total;
    }

    public boolean scalar(int reg, int value) {
        if (!isRegister(reg)) {
            return false;
        }
        ranks[reg] = 0;
        atoms[reg * MAX_CAP] = value;
        return true;
    }

    public boolean set(int reg, int index, int value) {
        if (!hasAtom(reg, index)) {
            return false;
        }
        atoms[reg * MAX_CAP + index] = value;
        return true;
    }

    public void setFill(int value) {
        fillValue = value;
    }

    public void setRank(int left, int right) {
        overrideActive = true;
        overrideLeft = left;
        overrideRight = right;
    }

    public void clearRank() {
        overrideActive = false;
        overrideLeft = 0;
        overrideRight = 0;
    }

    public int monad(int verb, int y, int dst) {
        if (!isMonad(verb) || !isRegister(y) || !isRegister(dst)) {
            return ERR_ARG;
        }
        int right = overrideActive ? overrideRight : rightRank(verb);
        int error = applyOuter(verb, NO_X, y, 0, right);
        return keepResult(error, dst);
    }

    public int dyad(int verb, int x, int y, int dst) {
        if (!isDyad(verb) || !isRegister(x) || !isRegister(y) || !isRegister(dst)) {
            return ERR_ARG;
        }
        int left = overrideActive ? overrideLeft : leftRank(verb);
        int right = overrideActive ? overrideRight : rightRank(verb);
        int error = applyOuter(verb, x, y, left, right);
        return keepResult(error, dst);
    }

    public int rank(int reg) {
        return isRegister(reg) ? ranks[reg] : -1;
    }

    public int dim(int reg, int axis) {
        if (!isRegister(reg) || axis < 0 || axis >= ranks[reg]) {
            return -1;
        }
        return dims[reg * MAX_RANK + axis];
    }

    public int count(int reg) {
        return isRegister(reg) ? product(reg, 0, ranks[reg]) : -1;
    }

    public int atom(int reg, int index) {
        return hasAtom(reg, index) ? atoms[reg * MAX_CAP + index] : 0;
    }

    public int fill() {
        return fillValue;
    }

    public int rankSetting(int side) {
        switch (side) {
            case 0:
                return overrideActive ? 1 : 0;
            case 1:
                return overrideLeft;
            case 2:
                return overrideRight;
            default:
                return 0;
        }
    }

    public int declaredRank(int verb, int side) {
        if (isMonad(verb) && side == 0) {
            return rightRank(verb);
        }
        if (isDyad(verb) && side == 1) {
            return leftRank(verb);
        }
        if (isDyad(verb) && side == 2) {
            return rightRank(verb);
        }
        return -1;
    }

    private boolean isRegister(int reg) {
        return reg >= 0 && reg < REGS;
    }

    private boolean hasAtom(int reg, int index) {
        return isRegister(reg) && index >= 0 && index < product(reg, 0, ranks[reg]);
    }

    private boolean isMonad(int verb) {
        return verb >= NEG && verb <= RAVEL;
    }

    private boolean isDyad(int verb) {
        return verb >= PLUS && verb <= FROM;
    }

    /** The declared left rank; 0 for a monad, whose x is the scalar in NO_X. */
    private int leftRank(int verb) {
        return verb == RESHAPE ? 1 : 0;
    }

    /** The declared right rank, which is a monad's only one. */
    private int rightRank(int verb) {
        boolean atomic = verb == NEG || verb == IOTA || verb >= PLUS && verb <= MAX;
        return atomic ? 0 : RANK_INF;
    }

    private int keepResult(int error, int dst) {
        if (error != NO_ERROR) {
            return error;
        }
        copyCell(RESULT + OUTER, 0, 0, dst);
        return product(dst, 0, ranks[dst]);
    }

    // ---- Application ----

    /**
     * A with any ranks. The cells are worked out twice, first for errors and shapes and then for
     * their atoms, because the shape of the result must be known before an atom is placed.
     */
    private int applyOuter(int verb, int x, int y, int left, int right) {
        int error = split(OUTER, x, y, left, right);
        if (error != NO_ERROR) {
            return error;
        }
        int positions = product(frameSlots[OUTER], 0, frameRanks[OUTER]);
        if (positions == 0) {
            if (fillCells(OUTER) && applyInner(verb) == NO_ERROR) {
                widen(OUTER);
            }
            return shapeResult(OUTER);
        }
        for (int q = 0; q < positions; q++) {
            fetchCells(OUTER, q);
            error = applyInner(verb);
            if (error != NO_ERROR) {
                return error;
            }
            widen(OUTER);
        }
        error = shapeResult(OUTER);
        if (error != NO_ERROR) {
            return error;
        }
        for (int q = 0; q < positions; q++) {
            fetchCells(OUTER, q);
            applyInner(verb);
            placeCell(OUTER, q);
        }
        return NO_ERROR;
    }

    /**
     * B on the cells of OUTER. It always applies at the declared ranks: on cells that do not
     * exceed them that is one position whose result is the primitive's own.
     * The steps are those of applyOuter, written again because a method may not call itself.
     */
    private int applyInner(int verb) {
        int left = leftRank(verb);
        int right = rightRank(verb);
        int error = split(INNER, X_CELL + OUTER, Y_CELL + OUTER, left, right);
        if (error != NO_ERROR) {
            return error;
        }
        int positions = product(frameSlots[INNER], 0, frameRanks[INNER]);
        if (positions == 0) {
            if (fillCells(INNER) && primitive(verb) == NO_ERROR) {
                widen(INNER);
            }
            return shapeResult(INNER);
        }
        for (int q = 0; q < positions; q++) {
            fetchCells(INNER, q);
            error = primitive(verb);
            if (error != NO_ERROR) {
                return error;
            }
            widen(INNER);
        }
        error = shapeResult(INNER);
        if (error != NO_ERROR) {
            return error;
        }
        for (int q = 0; q < positions; q++) {
            fetchCells(INNER, q);
            primitive(verb);
            placeCell(INNER, q);
        }
        return NO_ERROR;
    }

    /** Steps 1 and 2 of A. */
    private int split(int level, int x, int y, int left, int right) {
        int xFrameRank = ranks[x] - cellRank(ranks[x], left);
        int yFrameRank = ranks[y] - cellRank(ranks[y], right);
        int shorter = xFrameRank < yFrameRank ? xFrameRank : yFrameRank;
        for (int i = 0; i < shorter; i++) {
            if (dims[x * MAX_RANK + i] != dims[y * MAX_RANK + i]) {
                return ERR_LENGTH;
            }
        }
        xSlots[level] = x;
        ySlots[level] = y;
        xFrameRanks[level] = xFrameRank;
        yFrameRanks[level] = yFrameRank;
        frameSlots[level] = xFrameRank > yFrameRank ? x : y;
        frameRanks[level] = xFrameRank > yFrameRank ? xFrameRank : yFrameRank;
        widestRanks[level] = 0;
        for (int i = 0; i < MAX_RANK; i++) {
            widths[level * MAX_RANK + i] = 0;
        }
        return NO_ERROR;
    }

    private int cellRank(int arrayRank, int value) {
        if (value >= 0) {
            return value < arrayRank ? value : arrayRank;
        }
        // A small rank and a negative int cannot overflow together.
        return arrayRank + value > 0 ? arrayRank + value : 0;
    }

    private void fetchCells(int level, int position) {
        int xNumber = cellNumber(level, xFrameRanks[level], position);
        int yNumber = cellNumber(level, yFrameRanks[level], position);
        copyCell(xSlots[level], xFrameRanks[level], xNumber, X_CELL + level);
        copyCell(ySlots[level], yFrameRanks[level], yNumber, Y_CELL + level);
    }

    private int cellNumber(int level, int ownFrameRank, int position) {
        // In row-major order the positions that share their first coordinates stand together.
        int positionsPerCell = product(frameSlots[level], ownFrameRank, frameRanks[level]);
        return positionsPerCell > 0 ? position / positionsPerCell : 0;
    }

    private void copyCell(int source, int frameRank, int number, int target) {
        copyAxes(source, frameRank, target);
        int size = product(target, 0, ranks[target]);
        for (int i = 0; i < size; i++) {
            atoms[target * MAX_CAP + i] = atoms[source * MAX_CAP + number * size + i];
        }
    }

    /** False if a cell would have too many atoms: only a frame without positions has such cells. */
    private boolean fillCells(int level) {
        boolean xMade = fillCell(xSlots[level], xFrameRanks[level], X_CELL + level);
        boolean yMade = fillCell(ySlots[level], yFrameRanks[level], Y_CELL + level);
        return xMade && yMade;
    }

    private boolean fillCell(int source, int frameRank, int target) {
        copyAxes(source, frameRank, target);
        int size = product(target, 0, ranks[target]);
        if (size > cap) {
            return false;
        }
        for (int i = 0; i < size; i++) {
            atoms[target * MAX_CAP + i] = fillValue;
        }
        return true;
    }

    private void widen(int level) {
        int cell = RESULT + level + 1;
        if (ranks[cell] > widestRanks[level]) {
            widestRanks[level] = ranks[cell];
        }
        for (int i = 0; i < MAX_RANK; i++) {
            int length = liftedAxis(cell, i);
            if (length > widths[level * MAX_RANK + i]) {
                widths[level * MAX_RANK + i] = length;
            }
        }
    }

    /** Lifting to MAX_RANK instead of K only puts more 1s in front, which no maximum shows. */
    private int liftedAxis(int slot, int i) {
        int axis = i - (MAX_RANK - ranks[slot]);
        return axis < 0 ? 1 : dims[slot * MAX_RANK + axis];
    }

    private int shapeResult(int level) {
        int target = RESULT + level;
        int frameRank = frameRanks[level];
        int widestRank = widestRanks[level];
        if (frameRank + widestRank > MAX_RANK) {
            return ERR_LIMIT;
        }
        for (int i = 0; i < frameRank; i++) {
            dims[target * MAX_RANK + i] = dims[frameSlots[level] * MAX_RANK + i];
        }
        int unused = MAX_RANK - widestRank;
        for (int i = 0; i < widestRank; i++) {
            dims[target * MAX_RANK + frameRank + i] = widths[level * MAX_RANK + unused + i];
        }
        ranks[target] = frameRank + widestRank;
        return limitError(target);
    }

    private void placeCell(int level, int position) {
        int cell = RESULT + level + 1;
        int w0 = widths[level * MAX_RANK];
        int w1 = widths[level * MAX_RANK + 1];
        int w2 = widths[level * MAX_RANK + 2];
        int s0 = liftedAxis(cell, 0);
        int s1 = liftedAxis(cell, 1);
        int s2 = liftedAxis(cell, 2);
        int start = (RESULT + level) * MAX_CAP + position * w0 * w1 * w2;
        for (int i = 0; i < w0; i++) {
            for (int j = 0; j < w1; j++) {
                for (int k = 0; k < w2; k++) {
                    boolean inside = i < s0 && j < s1 && k < s2;
                    int from = cell * MAX_CAP + (i * s1 + j) * s2 + k;
                    atoms[start + (i * w1 + j) * w2 + k] = inside ? atoms[from] : fillValue;
                }
            }
        }
    }

    // ---- Shapes ----

    /** The product of the axes first .. end-1 of an array; 1 if there are none. */
    private int product(int slot, int first, int end) {
        int total = 1;
        for (int i = first; i < end; i++) {
            total *= dims[slot * MAX_RANK + i];
        }
        return total;
    }

    private void copyAxes(int source, int first, int target) {
        // A scalar is its own item, so it may be asked to leave out an axis that it has not.
        int rest = ranks[source] > first ? ranks[source] - first : 0;
        for (int i = 0; i < rest; i++) {
            dims[target * MAX_RANK + i] = dims[source * MAX_RANK + first + i];
        }
        ranks[target] = rest;
    }

    /** The LIMIT rule for a shape of at most MAX_RANK axes, none of them negative. */
    private int limitError(int slot) {
        int total = 1;
        for (int i = 0; i < ranks[slot]; i++) {
            int length = dims[slot * MAX_RANK + i];
            // Judged axis by axis, so that the product of what is left cannot overflow.
            if (length > cap) {
                return ERR_LIMIT;
            }
            total *= length;
        }
        return total > cap ? ERR_LIMIT : NO_ERROR;
    }

    // ---- Primitives: from the slots ARG_X and ARG_Y to the slot ANSWER ----

    private int primitive(int verb) {
        int x = atoms[ARG_X_ATOMS];
        int y = atoms[ARG_Y_ATOMS];
        switch (verb) {
            case NEG:
                return giveScalar(-y);
            case IOTA:
                return iota(y);
            case SHAPE:
                return shape();
            case REVERSE:
                return reverse();
            case SUM:
                return sum();
            case RAVEL:
                return ravel();
            case PLUS:
                return giveScalar(x + y);
            case MINUS:
                return giveScalar(x - y);
            case TIMES:
                return giveScalar(x * y);
            case MAX:
                return giveScalar(x > y ? x : y);
            case RESHAPE:
                return reshape();
            case TAKE:
                return take(x);
            default:
                return from(x);
        }
    }

    private int giveScalar(int value) {
        ranks[ANSWER] = 0;
        atoms[ANSWER_ATOMS] = value;
        return NO_ERROR;
    }

    private int iota(int length) {
        if (length < 0) {
            return ERR_DOMAIN;
        }
        if (length > cap) {
            return ERR_LIMIT;
        }
        giveListShape(length);
        for (int i = 0; i < length; i++) {
            atoms[ANSWER_ATOMS + i] = i;
        }
        return NO_ERROR;
    }

    private int shape() {
        giveListShape(ranks[ARG_Y]);
        for (int i = 0; i < ranks[ARG_Y]; i++) {
            atoms[ANSWER_ATOMS + i] = dims[ARG_Y * MAX_RANK + i];
        }
        return NO_ERROR;
    }

    private int reverse() {
        int items = itemCount();
        int size = product(ARG_Y, 1, ranks[ARG_Y]);
        copyAxes(ARG_Y, 0, ANSWER);
        for (int j = 0; j < items; j++) {
            copyItem(items - 1 - j, j, size);
        }
        return NO_ERROR;
    }

    private int sum() {
        int items = itemCount();
        copyAxes(ARG_Y, 1, ANSWER);
        // Items of an array without items may be larger than any array.
        if (limitError(ANSWER) != NO_ERROR) {
            return ERR_LIMIT;
        }
        int size = product(ANSWER, 0, ranks[ANSWER]);
        for (int i = 0; i < size; i++) {
            int total = 0;
            for (int j = 0; j < items; j++) {
                total += atoms[ARG_Y_ATOMS + j * size + i];
            }
            atoms[ANSWER_ATOMS + i] = total;
        }
        return NO_ERROR;
    }

    private int ravel() {
        int size = product(ARG_Y, 0, ranks[ARG_Y]);
        giveListShape(size);
        copyItem(0, 0, size);
        return NO_ERROR;
    }

    private int reshape() {
        int axes = product(ARG_X, 0, ranks[ARG_X]);
        for (int i = 0; i < axes; i++) {
            if (atoms[ARG_X_ATOMS + i] < 0) {
                return ERR_DOMAIN;
            }
        }
        if (axes > MAX_RANK) {
            return ERR_LIMIT;
        }
        for (int i = 0; i < axes; i++) {
            dims[ANSWER * MAX_RANK + i] = atoms[ARG_X_ATOMS + i];
        }
        ranks[ANSWER] = axes;
        if (limitError(ANSWER) != NO_ERROR) {
            return ERR_LIMIT;
        }
        int total = product(ANSWER, 0, axes);
        int available = product(ARG_Y, 0, ranks[ARG_Y]);
        for (int i = 0; i < total; i++) {
            int value = available > 0 ? atoms[ARG_Y_ATOMS + i % available] : fillValue;
            atoms[ANSWER_ATOMS + i] = value;
        }
        return NO_ERROR;
    }

    private int take(int wanted) {
        // Both sides are compared because the smallest int has no positive counterpart.
        if (wanted > cap || wanted < -cap) {
            return ERR_LIMIT;
        }
        int length = wanted < 0 ? -wanted : wanted;
        int items = itemCount();
        int size = product(ARG_Y, 1, ranks[ARG_Y]);
        copyAxes(ARG_Y, 0, ANSWER);
        ranks[ANSWER] = ranks[ARG_Y] == 0 ? 1 : ranks[ARG_Y];
        dims[ANSWER * MAX_RANK] = length;
        if (limitError(ANSWER) != NO_ERROR) {
            return ERR_LIMIT;
        }
        int skipped = wanted < 0 ? items - length : 0;
        for (int k = 0; k < length; k++) {
            int item = skipped + k;
            if (item >= 0 && item < items) {
                copyItem(item, k, size);
            } else {
                fillItem(k, size);
            }
        }
        return NO_ERROR;
    }

    private int from(int index) {
        int items = itemCount();
        if (index < -items || index >= items) {
            return ERR_INDEX;
        }
        int size = product(ARG_Y, 1, ranks[ARG_Y]);
        copyAxes(ARG_Y, 1, ANSWER);
        copyItem(index < 0 ? items + index : index, 0, size);
        return NO_ERROR;
    }

    private int itemCount() {
        // A scalar is treated as a list.
        return ranks[ARG_Y] == 0 ? 1 : dims[ARG_Y * MAX_RANK];
    }

    private void giveListShape(int length) {
        ranks[ANSWER] = 1;
        dims[ANSWER * MAX_RANK] = length;
    }

    private void copyItem(int item, int target, int size) {
        for (int i = 0; i < size; i++) {
            atoms[ANSWER_ATOMS + target * size + i] = atoms[ARG_Y_ATOMS + item * size + i];
        }
    }

    private void fillItem(int target, int size) {
        for (int i = 0; i < size; i++) {
            atoms[ANSWER_ATOMS + target * size + i] = fillValue;
        }
    }
}
