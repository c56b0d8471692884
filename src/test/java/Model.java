import java.util.ArrayList;
import java.util.Arrays;
import java.util.List;

/**
 * The document's words as a second program: slow, recursive, with long numbers and new objects
 * everywhere, so that it has as little as possible in common with RankAgreement.
 */
final class Model {
    /** An error of P, A or B. */
    static final class Refused extends Exception {
        private static final long serialVersionUID = 1L;
        final int code;

        Refused(int code) {
            super(null, null, false, false);
            this.code = code;
        }
    }

    /** An array of any shape; whether it obeys the LIMITS is asked where the document asks it. */
    static final class Arr {
        final List<Long> shape;
        final int[] atoms;

        Arr(List<Long> shape, int[] atoms) {
            this.shape = shape;
            this.atoms = atoms;
        }

        int rank() {
            return shape.size();
        }
    }

    static final Arr ZERO = new Arr(List.of(), new int[] {0});

    final int cap;
    final Arr[] regs = {ZERO, ZERO, ZERO, ZERO};
    int fill = 0;
    boolean active = false;
    int left = 0;
    int right = 0;

    Model(int cap) {
        this.cap = Math.max(8, Math.min(32, cap));
    }

    int make(int reg, int d0, int d1, int d2) {
        if (reg < 0 || reg > 3) {
            return -5;
        }
        List<Long> shape = new ArrayList<>();
        boolean absent = false;
        for (int d : new int[] {d0, d1, d2}) {
            if (d < 0) {
                absent = true;
            } else if (absent) {
                return -5;
            } else {
                shape.add((long) d);
            }
        }
        if (breaksLimits(shape)) {
            return -4;
        }
        int[] atoms = new int[(int) times(shape)];
        Arrays.setAll(atoms, i -> i);
        regs[reg] = new Arr(shape, atoms);
        return atoms.length;
    }

    boolean scalar(int reg, int value) {
        if (reg < 0 || reg > 3) {
            return false;
        }
        regs[reg] = atomic(value);
        return true;
    }

    boolean set(int reg, int index, int value) {
        if (reg < 0 || reg > 3 || index < 0 || index >= regs[reg].atoms.length) {
            return false;
        }
        int[] atoms = regs[reg].atoms.clone();
        atoms[index] = value;
        regs[reg] = new Arr(regs[reg].shape, atoms);
        return true;
    }

    int monad(int verb, int y, int dst) {
        if (verb < 0 || verb > 5 || y < 0 || y > 3 || dst < 0 || dst > 3) {
            return -5;
        }
        return call(verb, null, regs[y], 0, active ? right : declared(verb)[1], dst);
    }

    int dyad(int verb, int x, int y, int dst) {
        if (verb < 6 || verb > 12 || x < 0 || x > 3 || y < 0 || y > 3 || dst < 0 || dst > 3) {
            return -5;
        }
        int[] ranks = active ? new int[] {left, right} : declared(verb);
        return call(verb, regs[x], regs[y], ranks[0], ranks[1], dst);
    }

    private int call(int verb, Arr x, Arr y, int l, int r, int dst) {
        try {
            regs[dst] = application(verb, x, y, l, r);
            return regs[dst].atoms.length;
        } catch (Refused refused) {
            return refused.code;
        }
    }

    /** Left and right; a monad has its rank on the right. */
    static int[] declared(int verb) {
        int[][] all = {
            {-1, 0}, {-1, 0}, {-1, 3}, {-1, 3}, {-1, 3}, {-1, 3},
            {0, 0}, {0, 0}, {0, 0}, {0, 0}, {1, 3}, {0, 3}, {0, 3}
        };
        return all[verb];
    }

    private static long times(List<Long> shape) {
        long product = 1;
        for (long length : shape) {
            product = Math.multiplyExact(product, length);
        }
        return product;
    }

    private boolean breaksLimits(List<Long> shape) {
        return shape.size() > 3 || shape.stream().anyMatch(n -> n > cap) || times(shape) > cap;
    }

    private List<Long> limited(List<Long> shape) throws Refused {
        if (breaksLimits(shape)) {
            throw new Refused(-4);
        }
        return shape;
    }

    private static Arr atomic(int value) {
        return new Arr(List.of(), new int[] {value});
    }

    private static <T> List<T> joined(List<T> front, List<T> back) {
        List<T> all = new ArrayList<>(front);
        all.addAll(back);
        return all;
    }

    private static int frameRank(Arr a, long v) {
        long cellRank = v >= 0 ? Math.min(v, a.rank()) : Math.max(0, a.rank() + v);
        return (int) (a.rank() - cellRank);
    }

    /** Every index tuple of a shape, in row-major order. */
    private static List<List<Long>> tuples(List<Long> shape) {
        List<List<Long>> all = List.of(List.of());
        for (long length : shape) {
            List<List<Long>> longer = new ArrayList<>();
            for (List<Long> tuple : all) {
                for (long i = 0; i < length; i++) {
                    longer.add(joined(tuple, List.of(i)));
                }
            }
            all = longer;
        }
        return all;
    }

    private static long number(List<Long> tuple, List<Long> shape) {
        long number = 0;
        for (int i = 0; i < tuple.size(); i++) {
            number = number * shape.get(i) + tuple.get(i);
        }
        return number;
    }

    private static Arr cell(Arr a, int frameRank, List<Long> position) {
        List<Long> shape = a.shape.subList(frameRank, a.rank());
        int size = (int) times(shape);
        int start = size * (int) number(position.subList(0, frameRank), a.shape.subList(0, frameRank));
        return new Arr(shape, Arrays.copyOfRange(a.atoms, start, start + size));
    }

    private Arr fillArray(List<Long> shape) throws Refused {
        if (times(shape) > cap) {
            throw new Refused(-4);
        }
        int[] atoms = new int[(int) times(shape)];
        Arrays.fill(atoms, fill);
        return new Arr(shape, atoms);
    }

    Arr application(int verb, Arr x, Arr y, int l, int r) throws Refused {
        int fx = x == null ? 0 : frameRank(x, l);
        int fy = frameRank(y, r);
        List<Long> frame = y.shape.subList(0, fy);
        if (x != null) {
            int common = Math.min(fx, fy);
            if (!x.shape.subList(0, common).equals(y.shape.subList(0, common))) {
                throw new Refused(-1);
            }
            frame = fx > fy ? x.shape.subList(0, fx) : frame;
        }
        if (times(frame) == 0) {
            List<Long> tail = List.of();
            try {
                Arr xFill = x == null ? null : fillArray(x.shape.subList(fx, x.rank()));
                Arr yFill = fillArray(y.shape.subList(fy, y.rank()));
                tail = inside(verb, xFill, yFill).shape;
            } catch (Refused refused) {
                tail = List.of();
            }
            return new Arr(limited(joined(frame, tail)), new int[0]);
        }
        List<Arr> cells = new ArrayList<>();
        for (List<Long> position : tuples(frame)) {
            Arr xCell = x == null ? null : cell(x, fx, position);
            cells.add(inside(verb, xCell, cell(y, fy, position)));
        }
        return assembled(frame, cells);
    }

    private Arr assembled(List<Long> frame, List<Arr> cells) throws Refused {
        int widest = cells.stream().mapToInt(Arr::rank).max().getAsInt();
        List<Long> most = null;
        for (Arr cell : cells) {
            List<Long> lifted = lifted(cell, widest);
            if (most == null) {
                most = new ArrayList<>(lifted);
            }
            for (int i = 0; i < widest; i++) {
                most.set(i, Math.max(most.get(i), lifted.get(i)));
            }
        }
        List<Long> shape = limited(joined(frame, most));
        List<Integer> atoms = new ArrayList<>();
        for (Arr cell : cells) {
            List<Long> lifted = lifted(cell, widest);
            for (List<Long> tuple : tuples(most)) {
                boolean within = true;
                for (int i = 0; i < widest; i++) {
                    within = within && tuple.get(i) < lifted.get(i);
                }
                atoms.add(within ? cell.atoms[(int) number(tuple, lifted)] : fill);
            }
        }
        return new Arr(shape, atoms.stream().mapToInt(Integer::intValue).toArray());
    }

    private static List<Long> lifted(Arr cell, int rank) {
        List<Long> shape = new ArrayList<>(cell.shape);
        while (shape.size() < rank) {
            shape.add(0, 1L);
        }
        return shape;
    }

    private Arr inside(int verb, Arr x, Arr y) throws Refused {
        int[] declared = declared(verb);
        boolean fits = y.rank() <= declared[1] && (x == null || x.rank() <= declared[0]);
        return fits ? primitive(verb, x, y) : application(verb, x, y, declared[0], declared[1]);
    }

    private Arr primitive(int verb, Arr x, Arr y) throws Refused {
        switch (verb) {
            case 0: return atomic(-y.atoms[0]);
            case 1: return iota(y.atoms[0]);
            case 2: return list(y.shape.stream().mapToInt(Long::intValue).toArray());
            case 3: return reverse(y);
            case 4: return sum(y);
            case 5: return list(y.atoms);
            case 6: return atomic(x.atoms[0] + y.atoms[0]);
            case 7: return atomic(x.atoms[0] - y.atoms[0]);
            case 8: return atomic(x.atoms[0] * y.atoms[0]);
            case 9: return atomic(Math.max(x.atoms[0], y.atoms[0]));
            case 10: return reshape(x.atoms, y);
            case 11: return take(x.atoms[0], asList(y));
            default: return from(x.atoms[0], asList(y));
        }
    }

    private static Arr list(int[] atoms) {
        return new Arr(List.of((long) atoms.length), atoms);
    }

    private static Arr asList(Arr a) {
        return a.rank() == 0 ? list(a.atoms) : a;
    }

    private static List<Long> itemShape(Arr a) {
        return a.shape.subList(1, a.rank());
    }

    private static List<Arr> items(Arr a) {
        List<Arr> items = new ArrayList<>();
        for (long j = 0; j < a.shape.get(0); j++) {
            items.add(cell(a, 1, List.of(j)));
        }
        return items;
    }

    private Arr iota(int length) throws Refused {
        if (length < 0) {
            throw new Refused(-2);
        }
        limited(List.of((long) length));
        int[] atoms = new int[length];
        Arrays.setAll(atoms, i -> i);
        return list(atoms);
    }

    private static Arr ofItems(List<Long> shape, List<Arr> items) {
        return new Arr(shape, items.stream().flatMapToInt(item -> Arrays.stream(item.atoms)).toArray());
    }

    private static Arr reverse(Arr y) {
        if (y.rank() == 0) {
            return y;
        }
        List<Arr> turned = new ArrayList<>();
        items(y).forEach(item -> turned.add(0, item));
        return ofItems(y.shape, turned);
    }

    private Arr sum(Arr y) throws Refused {
        if (y.rank() == 0) {
            return y;
        }
        List<Long> shape = limited(itemShape(y));
        int[] atoms = new int[(int) times(shape)];
        for (Arr item : items(y)) {
            Arrays.setAll(atoms, i -> atoms[i] + item.atoms[i]);
        }
        return new Arr(shape, atoms);
    }

    private Arr reshape(int[] axes, Arr y) throws Refused {
        List<Long> shape = new ArrayList<>();
        for (int axis : axes) {
            if (axis < 0) {
                throw new Refused(-2);
            }
            shape.add((long) axis);
        }
        limited(shape);
        int[] atoms = new int[(int) times(shape)];
        int n = y.atoms.length;
        Arrays.setAll(atoms, i -> n == 0 ? fill : y.atoms[i % n]);
        return new Arr(shape, atoms);
    }

    private Arr take(int x, Arr y) throws Refused {
        long m = Math.abs((long) x);
        List<Long> shape = limited(joined(List.of(m), itemShape(y)));
        List<Arr> items = items(y);
        List<Arr> taken = new ArrayList<>();
        for (long k = 0; k < m; k++) {
            long from = x >= 0 ? k : items.size() - m + k;
            boolean there = from >= 0 && from < items.size();
            taken.add(there ? items.get((int) from) : fillArray(itemShape(y)));
        }
        return ofItems(shape, taken);
    }

    private static Arr from(int x, Arr y) throws Refused {
        long length = y.shape.get(0);
        if (x < -length || x >= length) {
            throw new Refused(-3);
        }
        return cell(y, 1, List.of(x >= 0 ? x : length + x));
    }
}
