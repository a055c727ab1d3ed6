import java.util.ArrayList;
import java.util.List;
import java.util.Random;

/**
 * Compares the class with slow answers that are found in another way: by minors of the generators, and by trying every
 * whole vector near enough. The lattices come from a fixed seed; "java OracleTest lattices seed" tries others.
 */
public final class OracleTest {
    private static int wrong = 0;
    private static String told = "";

    public static void main(String[] args) {
        int lattices = args.length > 0 ? Integer.parseInt(args[0]) : 120;
        long seed = args.length > 1 ? Long.parseLong(args[1]) : 20261115L;
        Random random = new Random(seed);
        for (int i = 0; i < lattices && wrong < 20; i++) {
            compare(Kinds.make(random, i), random);
        }
        System.out.println(wrong == 0 ? "all answers are as the slow ones" : wrong + " answers are not as the slow ones");
        if (wrong != 0) {
            System.exit(1);
        }
    }

    private static void due(String call, long got, long want) {
        if (got != want) {
            wrong++;
            System.out.println(told + ": " + call + " answered " + got + ", due is " + want);
        }
    }

    private static void compare(long[][] generators, Random random) {
        ShortVectors x = new ShortVectors();
        told = "lattice";
        int wasted = random.nextInt(3);
        for (int k = 0; k < wasted; k++) {
            x.add(random.nextInt(19) - 9, random.nextInt(19) - 9, random.nextInt(19) - 9, random.nextInt(19) - 9);
            x.count(10);
            x.vector(3, 1);
        }
        for (int k = 0; k < wasted; k++) {
            x.drop();
        }
        for (int k = 0; k < generators.length; k++) {
            long[] g = generators[k];
            told += " " + text(g);
            due("add" + text(g), x.add((int) g[0], (int) g[1], (int) g[2], (int) g[3]), k);
        }
        Slow slow = new Slow(generators);
        due("rank()", x.rank(), slow.rank);
        due("volume()", x.volume(), slow.volume());
        compareSpare(x, generators);
        compareMembers(x, slow, generators, random);
        compareMinima(x, slow);
        compareCounts(x, slow);
        compareVectors(x, slow);
        for (int i = 0; i < 4; i++) {
            compareNearest(x, slow, randomVector(random, i % 2 == 0 ? 30 : 8));
        }
    }

    private static void compareSpare(ShortVectors x, long[][] generators) {
        for (int k = 0; k < generators.length; k++) {
            long[][] others = new long[generators.length - 1][];
            for (int i = 0; i < others.length; i++) {
                others[i] = generators[i < k ? i : i + 1];
            }
            due("spare(" + k + ")", x.spare(k) ? 1 : 0, new Slow(others).order(generators[k]) == 1 ? 1 : 0);
        }
    }

    private static void compareMembers(ShortVectors x, Slow slow, long[][] generators, Random random) {
        for (int i = 0; i < 12; i++) {
            long[] v = i % 3 == 0 ? randomVector(random, 100) : combination(generators, random, i % 3 == 2);
            if (outside(v, 100)) {
                continue;
            }
            long order = slow.order(v);
            due("order" + text(v), x.order((int) v[0], (int) v[1], (int) v[2], (int) v[3]), order);
            due("has" + text(v), x.has((int) v[0], (int) v[1], (int) v[2], (int) v[3]) ? 1 : 0, order == 1 ? 1 : 0);
        }
        for (int i = 0; i < 6; i++) {
            long[] v = combination(generators, random, false);
            int factor = 1 + random.nextInt(20);
            for (int axis = 0; axis < 4; axis++) {
                v[axis] = v[axis] * factor + (i % 2 == 0 || axis != i / 2 ? 0 : 1);
            }
            if (!outside(v, 1000)) {
                due("has" + text(v), x.has((int) v[0], (int) v[1], (int) v[2], (int) v[3]) ? 1 : 0,
                        slow.order(v) == 1 ? 1 : 0);
            }
        }
    }

    private static void compareMinima(ShortVectors x, Slow slow) {
        List<long[]> independent = new ArrayList<>();
        if (slow.rank > 0) {
            for (long[] v : sorted(slow.around(new long[4], slow.boundOfMinima()))) {
                independent.add(v);
                if (independent.size() > slow.rank || rankOf(independent) < independent.size()) {
                    independent.remove(independent.size() - 1);
                }
            }
        }
        due("slow minima", independent.size(), slow.rank);
        for (int i = 0; i < independent.size(); i++) {
            due("minimum(" + (i + 1) + ")", x.minimum(i + 1), square(independent.get(i)));
        }
        due("minimum(rank + 1)", x.minimum(slow.rank + 1), ShortVectors.BAD);
    }

    private static void compareCounts(ShortVectors x, Slow slow) {
        List<long[]> members = slow.around(new long[4], 40);
        for (int m = 0; m <= 40; m++) {
            int count = 0;
            for (long[] v : members) {
                count += square(v) <= m ? 1 : 0;
            }
            due("count(" + m + ")", x.count(m), count);
        }
    }

    private static void compareVectors(ShortVectors x, Slow slow) {
        if (slow.rank == 0) {
            due("vector(1, 0)", x.vector(1, 0), ShortVectors.NONE);
            return;
        }
        long bound = 4;
        List<long[]> members = slow.around(new long[4], bound);
        while (members.size() < 41) {
            bound = bound * 4 / 3;
            members = slow.around(new long[4], bound);
        }
        members = sorted(members);
        for (int k = 0; k <= 40; k++) {
            for (int axis = 0; axis < 4; axis++) {
                due("vector(" + k + ", " + axis + ")", x.vector(k, axis), members.get(k)[axis]);
            }
        }
    }

    private static void compareNearest(ShortVectors x, Slow slow, long[] t) {
        long[] best = null;
        for (long[] v : slow.around(t, slow.boundOfDistance(t))) {
            if (best == null || before(less(v, t), less(best, t))) {
                best = v;
            }
        }
        if (best == null) {
            due("slow nearest", 0, 1);
            return;
        }
        due("distance" + text(t), x.distance((int) t[0], (int) t[1], (int) t[2], (int) t[3]), square(less(best, t)));
        for (int axis = 0; axis < 4; axis++) {
            due("nearest" + text(t) + " " + axis,
                    x.nearest((int) t[0], (int) t[1], (int) t[2], (int) t[3], axis), best[axis]);
        }
    }

    private static String text(long[] v) {
        return "(" + v[0] + ", " + v[1] + ", " + v[2] + ", " + v[3] + ")";
    }

    private static boolean outside(long[] v, long reach) {
        for (long c : v) {
            if (Math.abs(c) > reach) {
                return true;
            }
        }
        return false;
    }

    private static long[] randomVector(Random random, int reach) {
        long[] v = new long[4];
        for (int axis = 0; axis < 4; axis++) {
            v[axis] = random.nextInt(2 * reach + 1) - reach;
        }
        return v;
    }

    /** A sum of multiples of generators; divided by its common divisor where it is to be one that may not belong. */
    private static long[] combination(long[][] generators, Random random, boolean primitive) {
        long[] v = new long[4];
        for (long[] g : generators) {
            int factor = random.nextInt(5) - 2;
            for (int axis = 0; axis < 4; axis++) {
                v[axis] += factor * g[axis];
            }
        }
        long content = 0;
        for (long c : v) {
            content = gcd(content, c);
        }
        for (int axis = 0; axis < 4 && primitive && content > 1; axis++) {
            v[axis] /= content;
        }
        return v;
    }

    private static long[] less(long[] v, long[] t) {
        return new long[] {v[0] - t[0], v[1] - t[1], v[2] - t[2], v[3] - t[3]};
    }

    private static long square(long[] v) {
        return v[0] * v[0] + v[1] * v[1] + v[2] * v[2] + v[3] * v[3];
    }

    private static boolean before(long[] one, long[] other) {
        return order(one, other) < 0;
    }

    private static int order(long[] one, long[] other) {
        int bySquare = Long.compare(square(one), square(other));
        return bySquare != 0 ? bySquare : java.util.Arrays.compare(one, other);
    }

    private static List<long[]> sorted(List<long[]> vectors) {
        List<long[]> copy = new ArrayList<>(vectors);
        copy.sort(OracleTest::order);
        return copy;
    }

    private static long gcd(long a, long b) {
        return b == 0 ? Math.abs(a) : gcd(b, a % b);
    }

    private static int rankOf(List<long[]> vectors) {
        return new Slow(vectors.toArray(new long[0][])).rank;
    }

    /** Lattices of several kinds: plain, short, nearly parallel, dependent, with common divisors, steep. */
    private static final class Kinds {
        static long[][] make(Random random, int i) {
            long[][] generators = new long[i < 7 ? i : 1 + random.nextInt(6)][];
            int reach = new int[] {9, 9, 2, 9, 9, 9}[i % 6];
            long[] base = randomVector(random, 8);
            long[][] roots = {randomVector(random, 4), randomVector(random, 3), randomVector(random, 2)};
            int rootsUsed = 1 + random.nextInt(3);
            int divisor = 2 + random.nextInt(8);
            for (int k = 0; k < generators.length; k++) {
                long[] g = randomVector(random, reach);
                switch (i % 6) {
                    case 1 -> g = shifted(base, randomVector(random, 1));
                    case 3 -> g = fromRoots(roots, rootsUsed, random);
                    case 4 -> g = random.nextInt(3) == 0 ? g : divided(g, divisor);
                    case 5 -> g = steep(g, k);
                    default -> { }
                }
                generators[k] = g;
            }
            return generators;
        }

        private static long[] shifted(long[] base, long[] by) {
            return new long[] {base[0] + by[0], base[1] + by[1], base[2] + by[2], base[3] + by[3]};
        }

        private static long[] fromRoots(long[][] roots, int used, Random random) {
            for (int attempt = 0; attempt < 100; attempt++) {
                long[] v = new long[4];
                for (int r = 0; r < used; r++) {
                    int factor = random.nextInt(7) - 3;
                    for (int axis = 0; axis < 4; axis++) {
                        v[axis] += factor * roots[r][axis];
                    }
                }
                if (!outside(v, 9)) {
                    return v;
                }
            }
            return new long[4];
        }

        private static long[] divided(long[] g, int divisor) {
            long[] v = new long[4];
            for (int axis = 0; axis < 4; axis++) {
                v[axis] = g[axis] / divisor * divisor;
            }
            return v;
        }

        private static long[] steep(long[] g, int k) {
            long[] v = new long[4];
            for (int axis = 0; axis < 4; axis++) {
                v[axis] = axis == k % 4 ? 9 - k : axis < k ? g[axis] : 0;
            }
            return v;
        }
    }

    /** A lattice known by the minors of its generators. */
    private static final class Slow {
        final long[][] generators;
        final int rank;
        /** Columns on which the minors do not all vanish, as a bit set, and the common divisor of those minors. */
        private final int columns;
        private final long divisor;
        /** A vector belongs only if these forms of it are multiples of the divisor. */
        private final List<long[]> forms = new ArrayList<>();
        /** Form c gives coordinate c, times the scale, of a vector of the span from its coordinates in the columns. */
        private final long[][] spanForms = new long[4][];
        private long scale;

        Slow(long[][] generators) {
            this.generators = generators;
            int r = Math.min(4, generators.length);
            while (r > 0 && columnsOf(r) == 0) {
                r--;
            }
            rank = r;
            columns = columnsOf(r);
            divisor = divisorOf(generators, rank, columns);
            findForms();
        }

        private int columnsOf(int r) {
            for (int set = 15; set > 0; set--) {
                if (Integer.bitCount(set) == r && divisorOf(generators, r, set) != 0) {
                    return set;
                }
            }
            return 0;
        }

        private static long divisorOf(long[][] rows, int r, int set) {
            long common = 0;
            for (int chosen = 0; chosen < 1 << rows.length; chosen++) {
                if (Integer.bitCount(chosen) == r) {
                    common = gcd(common, determinant(pick(rows, chosen), set));
                }
            }
            return common;
        }

        private static long[][] pick(long[][] rows, int chosen) {
            long[][] picked = new long[Integer.bitCount(chosen)][];
            for (int i = 0, n = 0; i < rows.length; i++) {
                if ((chosen >> i & 1) != 0) {
                    picked[n++] = rows[i];
                }
            }
            return picked;
        }

        private static long determinant(long[][] rows, int set) {
            if (rows.length == 0) {
                return 1;
            }
            long[][] fewer = new long[rows.length - 1][];
            System.arraycopy(rows, 1, fewer, 0, fewer.length);
            long sum = 0;
            int sign = 1;
            for (int c = 0; c < 4; c++) {
                if ((set >> c & 1) != 0) {
                    if (rows[0][c] != 0) {
                        sum += sign * rows[0][c] * determinant(fewer, set & ~(1 << c));
                    }
                    sign = -sign;
                }
            }
            return sum;
        }

        long volume() {
            if (rank == 0) {
                return 1;
            }
            long sum = 0;
            for (int set = 1; set < 16; set++) {
                if (Integer.bitCount(set) == rank) {
                    long minor = divisorOf(generators, rank, set);
                    sum += minor * minor;
                }
            }
            return sum;
        }

        /** How often the lattice with the vector holds this lattice. */
        long order(long[] v) {
            long[][] more = new long[generators.length + 1][];
            System.arraycopy(generators, 0, more, 0, generators.length);
            more[generators.length] = v;
            for (int set = 1; set < 16; set++) {
                if (Integer.bitCount(set) == rank + 1 && divisorOf(more, rank + 1, set) != 0) {
                    return 0;
                }
            }
            return rank == 0 ? 1 : divisor / divisorOf(more, rank, columns);
        }

        private static long[] unit(int axis) {
            long[] v = new long[4];
            v[axis] = 1;
            return v;
        }

        private void findForms() {
            if (rank == 0) {
                return;
            }
            for (int chosen = 0; chosen < 1 << generators.length; chosen++) {
                if (Integer.bitCount(chosen) == rank - 1) {
                    forms.add(form(pick(generators, chosen), columns));
                }
            }
            for (int chosen = 0; chosen < 1 << generators.length; chosen++) {
                long[][] picked = pick(generators, chosen);
                if (picked.length == rank && determinant(picked, columns) != 0) {
                    findSpan(picked);
                    return;
                }
            }
        }

        /** The determinant of a vector above the rows, as a form of the vector. */
        private static long[] form(long[][] rows, int set) {
            long[] found = new long[4];
            long[][] matrix = new long[rows.length + 1][];
            System.arraycopy(rows, 0, matrix, 1, rows.length);
            for (int axis = 0; axis < 4; axis++) {
                matrix[0] = unit(axis);
                found[axis] = (set >> axis & 1) == 0 ? 0 : determinant(matrix, set);
            }
            return found;
        }

        private void findSpan(long[][] rows) {
            scale = Math.abs(determinant(rows, columns));
            for (int c = 0; c < 4; c++) {
                if ((columns >> c & 1) != 0) {
                    spanForms[c] = null;
                    continue;
                }
                long[] f = form(rows, columns | 1 << c);
                long sign = f[c] > 0 ? -1 : 1;
                for (int axis = 0; axis < 4; axis++) {
                    f[axis] *= sign;
                }
                f[c] = 0;
                spanForms[c] = f;
            }
        }

        /** All vectors of the lattice whose square, less the centre, is at most the bound. */
        List<long[]> around(long[] centre, long bound) {
            List<long[]> found = new ArrayList<>();
            scan(0, new long[4], centre, bound, bound, found);
            return found;
        }

        private void scan(int axis, long[] v, long[] centre, long left, long bound, List<long[]> found) {
            if (axis == 4) {
                finish(v, centre, bound, found);
                return;
            }
            if ((columns >> axis & 1) == 0) {
                scan(axis + 1, v, centre, left, bound, found);
                return;
            }
            long reach = (long) Math.sqrt((double) left) + 1;
            for (long step = -reach; step <= reach; step++) {
                if (step * step <= left) {
                    v[axis] = centre[axis] + step;
                    scan(axis + 1, v, centre, left - step * step, bound, found);
                }
            }
        }

        private void finish(long[] v, long[] centre, long bound, List<long[]> found) {
            for (long[] form : forms) {
                if ((form[0] * v[0] + form[1] * v[1] + form[2] * v[2] + form[3] * v[3]) % divisor != 0) {
                    return;
                }
            }
            long[] whole = new long[4];
            for (int c = 0; c < 4; c++) {
                whole[c] = v[c];
                if (rank == 0) {
                    whole[c] = 0;
                } else if (spanForms[c] != null) {
                    long scaled = 0;
                    for (int axis = 0; axis < 4; axis++) {
                        scaled += (columns >> axis & 1) == 0 ? 0 : spanForms[c][axis] * v[axis];
                    }
                    if (scaled % scale != 0) {
                        return;
                    }
                    whole[c] = scaled / scale;
                }
            }
            if (square(less(whole, centre)) <= bound) {
                found.add(whole);
            }
        }

        /** As many independent generators as the rank says are within this square. */
        long boundOfMinima() {
            List<long[]> chosen = new ArrayList<>();
            for (long[] g : sorted(List.of(generators))) {
                chosen.add(g);
                if (rankOf(chosen) < chosen.size()) {
                    chosen.remove(chosen.size() - 1);
                }
            }
            return chosen.isEmpty() ? 0 : square(chosen.get(chosen.size() - 1));
        }

        /** The distance of a vector that steps along the generators lead to. */
        long boundOfDistance(long[] t) {
            long[] left = t.clone();
            boolean closer = true;
            while (closer) {
                closer = false;
                for (long[] g : generators) {
                    for (int sign = -1; sign <= 1; sign += 2) {
                        long[] next = new long[4];
                        for (int axis = 0; axis < 4; axis++) {
                            next[axis] = left[axis] + sign * g[axis];
                        }
                        if (square(next) < square(left)) {
                            left = next;
                            closer = true;
                        }
                    }
                }
            }
            return square(left);
        }
    }
}
