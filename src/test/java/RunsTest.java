import java.math.BigInteger;
import java.util.ArrayList;
import java.util.Arrays;
import java.util.List;
import java.util.Random;

/**
 * Runs of 512 calls on one object, in which add and drop change the lattice between the calls that ask of it. Some runs
 * have answers found by hand; in the others a slow model, made anew after each change, says what is due.
 * "java RunsTest runs seed" tries other runs.
 */
public final class RunsTest {
    private static final int CALLS = 512;
    private static final int BAD = ShortVectors.BAD;
    private static final int FULL = ShortVectors.FULL;
    private static final int NONE = ShortVectors.NONE;

    private static int wrong = 0;
    private static String told = "";
    private static int called = 0;

    public static void main(String[] args) {
        int runs = args.length > 0 ? Integer.parseInt(args[0]) : 24;
        long seed = args.length > 1 ? Long.parseLong(args[1]) : 20261116L;
        toAndFro();
        upAndDown();
        fullAgainAndAgain();
        Random random = new Random(seed);
        for (int i = 0; i < runs && wrong < 20; i++) {
            Run run = new Run(random, i / 2);
            begin("run " + i + " of seed " + seed);
            if (i % 2 == 0) {
                sweep(run);
            } else {
                scatter(run);
            }
            end();
        }
        System.out.println(wrong == 0 ? "all runs are as due" : wrong + " answers are not as due");
        if (wrong != 0) {
            System.exit(1);
        }
    }

    private static void due(String call, long got, long want) {
        if (got != want) {
            wrong++;
            System.out.println(told + ", call " + called + ": " + call + " answered " + got + ", due is " + want);
        }
    }

    /** One answer of the object, counted as a call. */
    private static void answer(String call, long got, long want) {
        called++;
        due(call, got, want);
    }

    private static void answer(String call, boolean got, boolean want) {
        answer(call, got ? 1 : 0, want ? 1 : 0);
    }

    private static void begin(String run) {
        told = run;
        called = 0;
    }

    private static void end() {
        due("calls made", called, CALLS);
    }

    /** One generator comes and goes; all that it changes must change each time, and change back. */
    private static void toAndFro() {
        begin("to and fro");
        ShortVectors x = new ShortVectors();
        answer("add", x.add(2, 0, 0, 0), 0);
        answer("add", x.add(0, 2, 0, 0), 1);
        answer("add", x.add(0, 0, 2, 0), 2);
        answer("add", x.add(0, 0, 0, 2), 3);
        while (called + 28 <= CALLS) {
            answer("add", x.add(1, 1, 1, 1), 4);
            askBetween(x, true);
            answer("drop", x.drop(), true);
            askBetween(x, false);
        }
        while (called < CALLS) {
            answer("count", x.count(40), 569);
        }
        end();
    }

    private static void askBetween(ShortVectors x, boolean centred) {
        answer("generators", x.generators(), centred ? 5 : 4);
        answer("rank", x.rank(), 4);
        answer("volume", x.volume(), centred ? 64 : 256);
        answer("spare", x.spare(0), centred);
        answer("has", x.has(-999, 1, 3, 5), centred);
        answer("order", x.order(1, -1, 1, -1), centred ? 1 : 2);
        answer("minimum", x.minimum(4), 4);
        answer("count", x.count(4), centred ? 25 : 9);
        answer("vector", x.vector(2, 0), centred ? -1 : 0);
        answer("vector", x.vector(2, 1), centred ? -1 : -2);
        answer("distance", x.distance(1, 1, 1, 1), centred ? 0 : 4);
        answer("nearest", x.nearest(1, 1, 1, 1, 3), centred ? 1 : 0);
        answer("refused add", x.add(1, 10, 0, 0), BAD);
    }

    /** The rank climbs from 0 to 4 and falls again, with generators on the way that depend on those before them. */
    private static void upAndDown() {
        begin("up and down");
        int[][] steps = {{0, 0, 0, 5}, {0, 0, 0, 3}, {0, 0, 4, 0}, {0, 2, 0, 0}, {0, 8, 8, 9}, {7, 0, 0, 0}};
        ShortVectors x = new ShortVectors();
        int held = 0;
        int way = 1;
        while (called + 12 <= CALLS) {
            if (way > 0) {
                int[] g = steps[held];
                answer("add", x.add(g[0], g[1], g[2], g[3]), held);
            } else {
                answer("drop", x.drop(), true);
            }
            held += way;
            way = held == 6 ? -1 : held == 0 ? 1 : way;
            askOnTheWay(x, held);
        }
        while (called < CALLS) {
            answer("generators", x.generators(), held);
        }
        end();
    }

    private static void askOnTheWay(ShortVectors x, int held) {
        int rank = new int[] {0, 1, 1, 2, 3, 3, 4}[held];
        answer("rank", x.rank(), rank);
        answer("volume", x.volume(), new int[] {1, 25, 1, 16, 64, 64, 3136}[held]);
        answer("spare", x.spare(held - 1), held == 5);
        answer("has", x.has(0, -6, 8, 1), held >= 4);
        answer("order", x.order(1, 1, 1, 1), held == 6 ? 28 : 0);
        answer("minimum", x.minimum(rank), new int[] {BAD, 25, 1, 16, 16, 16, 49}[held]);
        answer("minimum", x.minimum(rank + 1), BAD);
        answer("count", x.count(40), new int[] {1, 3, 13, 31, 141, 141, 141}[held]);
        answer("vector", x.vector(1, 3), new int[] {NONE, -5, -1, -1, -1, -1, -1}[held]);
        answer("distance", x.distance(4, 2, 0, 4), new int[] {36, 21, 20, 20, 16, 16, 9}[held]);
        answer("nearest", x.nearest(4, 2, 0, 4, 3), new int[] {0, 5, 4, 4, 4, 4, 4}[held]);
    }

    /** Six generators, one more refused, one taken away and another put in its place. */
    private static void fullAgainAndAgain() {
        begin("full again and again");
        ShortVectors x = new ShortVectors();
        for (int k = 0; k < 5; k++) {
            answer("add", x.add(6, 0, 0, 0), k);
        }
        for (int i = 0; called + 9 <= CALLS; i++) {
            int last = i % 9 + 1;
            int step = last % 6 == 0 ? 6 : last % 3 == 0 ? 3 : last % 2 == 0 ? 2 : 1;
            answer("add", x.add(last, 0, 0, 0), 5);
            answer("add when full", x.add(1, 1, 1, 1), FULL);
            answer("generators", x.generators(), 6);
            answer("volume", x.volume(), step * step);
            answer("has", x.has(step - 6, 0, 0, 0), true);
            answer("has", x.has(1, 0, 0, 0), step == 1);
            answer("spare", x.spare(5), last == 6);
            answer("order", x.order(1, 0, 0, 0), step);
            answer("drop", x.drop(), true);
        }
        while (called < CALLS) {
            answer("minimum", x.minimum(1), 36);
        }
        end();
    }

    /** Everything is asked after every change, so that each answer has been worked out before the lattice changes. */
    private static void sweep(Run run) {
        while (called < CALLS) {
            run.change();
            for (int call = 2; call < Run.KINDS_OF_CALLS && called < CALLS; call++) {
                run.call(call);
            }
        }
    }

    /** Calls in no order, changes and refused ones among them. */
    private static void scatter(Run run) {
        while (called < CALLS) {
            if (run.random.nextInt(6) == 0) {
                run.change();
            } else {
                run.call(run.random.nextInt(Run.KINDS_OF_CALLS));
            }
        }
    }

    /** An object, and the generators that it should have. */
    private static final class Run {
        static final int KINDS_OF_CALLS = 13;

        final Random random;
        private final ShortVectors x = new ShortVectors();
        private final List<long[]> generators = new ArrayList<>();
        private final int kind;
        private Model model = new Model(generators);

        Run(Random random, int kind) {
            this.random = random;
            this.kind = kind % 5;
        }

        /** Adds or drops, so that the number of generators goes everywhere from 0 to 6. */
        void change() {
            if (random.nextInt(12) < 8 - generators.size()) {
                add(generator());
            } else {
                drop();
            }
        }

        void call(int which) {
            switch (which) {
                case 0 -> add(random.nextInt(4) == 0 ? point(9, true) : generator());
                case 1 -> drop();
                case 2 -> answer("generators()", x.generators(), generators.size());
                case 3 -> answer("rank()", x.rank(), model.rank());
                case 4 -> answer("volume()", x.volume(), model.volume());
                case 5 -> spare(random.nextInt(8) - 1);
                case 6 -> has(random.nextInt(3) > 0 ? member(1000) : point(1000, true));
                case 7 -> order(random.nextInt(3) > 0 ? member(100) : point(100, true));
                case 8 -> minimum(random.nextInt(6));
                case 9 -> count(random.nextInt(44) - 2);
                case 10 -> vector(random.nextInt(44) - 2, axis());
                case 11 -> distance(point(30, true));
                default -> nearest(point(30, true), axis());
            }
        }

        private void add(long[] g) {
            long want = outside(g, 9) ? BAD : generators.size() == 6 ? FULL : generators.size();
            answer("add" + text(g), x.add((int) g[0], (int) g[1], (int) g[2], (int) g[3]), want);
            if (want >= 0) {
                generators.add(g);
                model = new Model(generators);
            }
        }

        private void drop() {
            answer("drop()", x.drop(), !generators.isEmpty());
            if (!generators.isEmpty()) {
                generators.remove(generators.size() - 1);
                model = new Model(generators);
            }
        }

        private void spare(int k) {
            boolean want = false;
            if (k >= 0 && k < generators.size()) {
                List<long[]> others = new ArrayList<>(generators);
                others.remove(k);
                want = new Model(others).holds(generators.get(k));
            }
            answer("spare(" + k + ")", x.spare(k), want);
        }

        private void has(long[] v) {
            answer("has" + text(v), x.has((int) v[0], (int) v[1], (int) v[2], (int) v[3]),
                    !outside(v, 1000) && model.holds(v));
        }

        private void order(long[] v) {
            answer("order" + text(v), x.order((int) v[0], (int) v[1], (int) v[2], (int) v[3]),
                    outside(v, 100) ? BAD : model.order(v));
        }

        private void minimum(int i) {
            answer("minimum(" + i + ")", x.minimum(i), i < 1 || i > model.rank() ? BAD : model.minimum(i));
        }

        private void count(int m) {
            answer("count(" + m + ")", x.count(m), m < 0 || m > 40 ? BAD : model.around(new long[4], m).size());
        }

        private void vector(int k, int axis) {
            boolean none = axis < 0 || axis > 3 || k < 0 || k > 40 || model.rank() == 0 && k > 0;
            answer("vector(" + k + ", " + axis + ")", x.vector(k, axis), none ? NONE : model.vector(k)[axis]);
        }

        private void distance(long[] p) {
            answer("distance" + text(p), x.distance((int) p[0], (int) p[1], (int) p[2], (int) p[3]),
                    outside(p, 30) ? BAD : square(less(model.nearest(p), p)));
        }

        private void nearest(long[] p, int axis) {
            answer("nearest" + text(p) + " " + axis,
                    x.nearest((int) p[0], (int) p[1], (int) p[2], (int) p[3], axis),
                    outside(p, 30) || axis < 0 || axis > 3 ? NONE : model.nearest(p)[axis]);
        }

        private int axis() {
            return random.nextInt(8) == 0 ? random.nextInt(9) - 3 : random.nextInt(4);
        }

        private long[] generator() {
            long[] g = point(9, false);
            int one = random.nextInt(4);
            switch (kind) {
                case 1 -> g = point(2, false);
                case 2 -> Arrays.fill(g, (one + 1) % 4, 4, 0);
                case 3 -> g = new long[] {g[0] / 3 * 3, g[1] / 3 * 3, g[2] / 2 * 2, 0};
                case 4 -> g = generators.isEmpty() || one == 0 ? g : near(generators.get(generators.size() - 1));
                default -> { }
            }
            return g;
        }

        /** A generator again, or almost. */
        private long[] near(long[] g) {
            long[] v = g.clone();
            int axis = random.nextInt(4);
            v[axis] = Math.max(-9, Math.min(9, v[axis] + random.nextInt(5) - 2));
            return v;
        }

        /** A vector within the reach; where it may be wrong, sometimes one that is just or far outside. */
        private long[] point(int reach, boolean mayBeWrong) {
            long[] v = new long[4];
            for (int axis = 0; axis < 4; axis++) {
                v[axis] = random.nextInt(2 * reach + 1) - reach;
            }
            if (mayBeWrong && random.nextInt(8) == 0) {
                int[] far = {reach + 1, -reach - 1, Integer.MAX_VALUE, Integer.MIN_VALUE};
                v[random.nextInt(4)] = far[random.nextInt(4)];
            }
            return v;
        }

        /** A sum of multiples of generators, or one that is a step beside it, or a part of one. */
        private long[] member(int reach) {
            long[] v = new long[4];
            for (long[] g : generators) {
                int factor = random.nextInt(reach / 20 + 1) - reach / 40;
                for (int axis = 0; axis < 4; axis++) {
                    v[axis] += factor * g[axis];
                }
            }
            if (random.nextInt(3) == 0) {
                v[random.nextInt(4)] += random.nextInt(3) - 1;
            }
            int divisor = random.nextInt(3) == 0 ? 2 + random.nextInt(2) : 1;
            for (int axis = 0; axis < 4; axis++) {
                v[axis] = v[axis] % divisor == 0 ? v[axis] / divisor : v[axis];
            }
            return v;
        }
    }

    private static String text(long[] v) {
        return "(" + v[0] + ", " + v[1] + ", " + v[2] + ", " + v[3] + ")";
    }

    private static boolean outside(long[] v, long reach) {
        for (long c : v) {
            if (c < -reach || c > reach) {
                return true;
            }
        }
        return false;
    }

    private static long square(long[] v) {
        return v[0] * v[0] + v[1] * v[1] + v[2] * v[2] + v[3] * v[3];
    }

    private static long[] less(long[] v, long[] p) {
        return new long[] {v[0] - p[0], v[1] - p[1], v[2] - p[2], v[3] - p[3]};
    }

    /** A lattice by rows whose first coordinates other than 0, the leads, stand on different axes. */
    private static final class Model {
        /** Row a leads on axis a, or is null. */
        private final long[][] rows = new long[4][];
        private List<long[]> list = List.of();
        private long[] minima;

        Model(List<long[]> generators) {
            List<long[]> left = new ArrayList<>();
            for (long[] g : generators) {
                left.add(g.clone());
            }
            for (int axis = 0; axis < 4; axis++) {
                rows[axis] = lead(left, axis);
            }
        }

        /** Takes multiples of the least row from the others until only one row is not 0 on the axis, and removes it. */
        private static long[] lead(List<long[]> left, int axis) {
            while (true) {
                long[] least = null;
                int others = 0;
                for (long[] row : left) {
                    others += row[axis] != 0 ? 1 : 0;
                    if (row[axis] != 0 && (least == null || Math.abs(row[axis]) < Math.abs(least[axis]))) {
                        least = row;
                    }
                }
                if (others <= 1) {
                    left.remove(least);
                    return least;
                }
                for (long[] row : left) {
                    if (row != least) {
                        subtract(row, least, row[axis] / least[axis]);
                    }
                }
            }
        }

        private static void subtract(long[] row, long[] other, long factor) {
            for (int axis = 0; axis < 4; axis++) {
                row[axis] = Math.subtractExact(row[axis], Math.multiplyExact(factor, other[axis]));
            }
        }

        int rank() {
            int sum = 0;
            for (long[] row : rows) {
                sum += row == null ? 0 : 1;
            }
            return sum;
        }

        /** The sum of the squares of the minors of the rows (Cauchy and Binet). */
        long volume() {
            List<long[]> basis = new ArrayList<>();
            for (long[] row : rows) {
                if (row != null) {
                    basis.add(row);
                }
            }
            BigInteger sum = BigInteger.ZERO;
            for (int axes = 0; axes < 16; axes++) {
                if (Integer.bitCount(axes) == basis.size()) {
                    sum = sum.add(minor(basis, 0, axes).pow(2));
                }
            }
            return sum.longValueExact();
        }

        private static BigInteger minor(List<long[]> basis, int row, int axes) {
            if (axes == 0) {
                return BigInteger.ONE;
            }
            BigInteger sum = BigInteger.ZERO;
            boolean minus = false;
            for (int axis = 0; axis < 4; axis++) {
                if ((axes >> axis & 1) != 0) {
                    BigInteger part = minor(basis, row + 1, axes & ~(1 << axis));
                    part = part.multiply(BigInteger.valueOf(basis.get(row)[axis]));
                    sum = minus ? sum.subtract(part) : sum.add(part);
                    minus = !minus;
                }
            }
            return sum;
        }

        boolean holds(long[] v) {
            long[] rest = v.clone();
            for (int axis = 0; axis < 4; axis++) {
                if (rest[axis] != 0) {
                    if (rows[axis] == null || rest[axis] % rows[axis][axis] != 0) {
                        return false;
                    }
                    subtract(rest, rows[axis], rest[axis] / rows[axis][axis]);
                }
            }
            return true;
        }

        /** Tries every multiple; the product of the leads is one that serves, if any does. */
        long order(long[] v) {
            long leads = 1;
            for (int axis = 0; axis < 4; axis++) {
                leads *= rows[axis] == null ? 1 : Math.abs(rows[axis][axis]);
            }
            for (long n = 1; n <= leads; n++) {
                if (holds(new long[] {n * v[0], n * v[1], n * v[2], n * v[3]})) {
                    return n;
                }
            }
            return 0;
        }

        /** All vectors of the lattice whose square, less the point, is at most the bound. */
        List<long[]> around(long[] p, long bound) {
            List<long[]> found = new ArrayList<>();
            extend(0, new long[4], p, bound, found);
            return found;
        }

        private void extend(int axis, long[] sum, long[] p, long left, List<long[]> found) {
            if (left < 0) {
                return;
            }
            if (axis == 4) {
                found.add(sum);
                return;
            }
            if (rows[axis] == null) {
                long beside = sum[axis] - p[axis];
                extend(axis + 1, sum, p, left - beside * beside, found);
                return;
            }
            long lead = Math.abs(rows[axis][axis]);
            long reach = root(left);
            long first = sum[axis] + Math.floorDiv(p[axis] - reach - sum[axis] + lead - 1, lead) * lead;
            for (long c = first; c <= p[axis] + reach; c += lead) {
                long[] next = sum.clone();
                subtract(next, rows[axis], (sum[axis] - c) / rows[axis][axis]);
                extend(axis + 1, next, p, left - (c - p[axis]) * (c - p[axis]), found);
            }
        }

        private static long root(long n) {
            long r = 0;
            while ((r + 1) * (r + 1) <= n) {
                r++;
            }
            return r;
        }

        /** At least the first 41 vectors of the lattice and all up to the square of the last, in their order. */
        private List<long[]> list() {
            for (long bound = 2; list.size() < 41; bound = bound * 3 / 2 + 1) {
                list = around(new long[4], bound);
            }
            list.sort(RunsTest::inOrder);
            return list;
        }

        long[] vector(int k) {
            return rank() == 0 ? new long[4] : list().get(k);
        }

        long minimum(int i) {
            if (minima == null) {
                List<long[]> chosen = new ArrayList<>();
                for (long bound = 2; chosen.size() < rank(); bound = bound * 3 / 2 + 1) {
                    List<long[]> near = around(new long[4], bound);
                    near.sort(RunsTest::inOrder);
                    chosen = independent(near);
                }
                minima = new long[chosen.size()];
                for (int k = 0; k < minima.length; k++) {
                    minima[k] = square(chosen.get(k));
                }
            }
            return minima[i - 1];
        }

        private static List<long[]> independent(List<long[]> vectors) {
            List<long[]> chosen = new ArrayList<>();
            for (long[] v : vectors) {
                chosen.add(v);
                if (new Model(chosen).rank() < chosen.size()) {
                    chosen.remove(chosen.size() - 1);
                }
            }
            return chosen;
        }

        long[] nearest(long[] p) {
            List<long[]> near = around(p, 0);
            for (long bound = 2; near.isEmpty(); bound = bound * 3 / 2 + 1) {
                near = around(p, bound);
            }
            long[] best = near.get(0);
            for (long[] v : near) {
                if (inOrder(less(v, p), less(best, p)) < 0) {
                    best = v;
                }
            }
            return best;
        }
    }

    private static int inOrder(long[] one, long[] other) {
        int bySquare = Long.compare(square(one), square(other));
        return bySquare != 0 ? bySquare : Arrays.compare(one, other);
    }
}
