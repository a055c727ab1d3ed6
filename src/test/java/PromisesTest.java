/** Each promise with answers found by hand: ordinary inputs, the edges that the document names, and wrong inputs. */
public final class PromisesTest {
    private static final int LEAST = Integer.MIN_VALUE;
    private static final int MOST = Integer.MAX_VALUE;
    private static final int BAD = -1;
    private static final int FULL = -2;
    private static final int NONE = 1000;
    private static int wrong = 0;
    private static String promise = "";

    public static void main(String[] args) {
        newObject();
        add();
        addRefused();
        drop();
        generators();
        rank();
        volume();
        spare();
        has();
        order();
        minimum();
        count();
        vector();
        vectorOfOneRow();
        distance();
        nearest();
        refusalsChangeNothing();
        objectsAreApart();
        manyCalls();
        System.out.println(wrong == 0 ? "all promises hold" : wrong + " answers are not as due");
        if (wrong != 0) {
            System.exit(1);
        }
    }

    private static void due(String call, long got, long want) {
        if (got != want) {
            wrong++;
            System.out.println(promise + ": " + call + " answered " + got + ", due is " + want);
        }
    }

    private static void due(String call, boolean got, boolean want) {
        due(call, got ? 1L : 0L, want ? 1L : 0L);
    }

    private static ShortVectors lattice(int[]... generators) {
        ShortVectors x = new ShortVectors();
        for (int k = 0; k < generators.length; k++) {
            int[] g = generators[k];
            due("add", x.add(g[0], g[1], g[2], g[3]), k);
        }
        return x;
    }

    private static int[] v(int a, int b, int c, int d) {
        return new int[] {a, b, c, d};
    }

    private static ShortVectors diagonal(int a, int b, int c, int d) {
        return lattice(v(a, 0, 0, 0), v(0, b, 0, 0), v(0, 0, c, 0), v(0, 0, 0, d));
    }

    private static void dueVector(ShortVectors x, int k, int... want) {
        for (int axis = 0; axis < 4; axis++) {
            due("vector(" + k + ", " + axis + ")", x.vector(k, axis), want[axis]);
        }
    }

    private static void dueNearest(ShortVectors x, int[] t, int distance, int... want) {
        String at = "(" + t[0] + ", " + t[1] + ", " + t[2] + ", " + t[3] + ")";
        due("distance" + at, x.distance(t[0], t[1], t[2], t[3]), distance);
        for (int axis = 0; axis < 4; axis++) {
            due("nearest" + at + " " + axis, x.nearest(t[0], t[1], t[2], t[3], axis), want[axis]);
        }
    }

    /** The answers of an object without generators. */
    private static void dueEmpty(ShortVectors x) {
        due("generators()", x.generators(), 0);
        due("rank()", x.rank(), 0);
        due("volume()", x.volume(), 1);
        due("has(0, 0, 0, 0)", x.has(0, 0, 0, 0), true);
        due("has(0, 0, 0, 1)", x.has(0, 0, 0, 1), false);
        due("order(0, 0, 0, 0)", x.order(0, 0, 0, 0), 1);
        due("order(0, 0, 0, 1)", x.order(0, 0, 0, 1), 0);
        due("minimum(1)", x.minimum(1), BAD);
        due("count(0)", x.count(0), 1);
        due("count(40)", x.count(40), 1);
        dueVector(x, 0, 0, 0, 0, 0);
        dueVector(x, 1, NONE, NONE, NONE, NONE);
        dueVector(x, 40, NONE, NONE, NONE, NONE);
        dueNearest(x, v(-30, 30, -30, 30), 3600, 0, 0, 0, 0);
    }

    private static void newObject() {
        promise = "promise 1";
        dueEmpty(new ShortVectors());
        due("BAD", ShortVectors.BAD, BAD);
        due("FULL", ShortVectors.FULL, FULL);
        due("NONE", ShortVectors.NONE, NONE);
    }

    private static void add() {
        promise = "promise 2";
        ShortVectors x = new ShortVectors();
        due("add", x.add(9, -9, 9, -9), 0);
        due("has", x.has(9, -9, 9, -9), true);
        due("add", x.add(-9, 9, -9, 9), 1);
        due("add", x.add(0, 0, 0, 0), 2);
        due("add", x.add(1, 2, 3, 4), 3);
        due("add", x.add(1, 2, 3, 4), 4);
        due("add", x.add(4, 3, 2, 1), 5);
        due("add", x.add(1, 1, 1, 1), FULL);
        due("has", x.has(1, 1, 1, 1), false);
        due("has", x.has(5, 5, 5, 5), true);
        due("generators", x.generators(), 6);
        due("rank", x.rank(), 3);
    }

    private static void addRefused() {
        promise = "promise 2";
        ShortVectors x = new ShortVectors();
        int[] outside = {10, -10, 11, 1000, LEAST, MOST};
        for (int far : outside) {
            due("add", x.add(far, 0, 0, 0), BAD);
            due("add", x.add(0, far, 0, 0), BAD);
            due("add", x.add(0, 0, far, 0), BAD);
            due("add", x.add(0, 0, 0, far), BAD);
        }
        dueEmpty(x);
        for (int k = 0; k < 6; k++) {
            due("add", x.add(0, 0, 0, k), k);
        }
        due("add", x.add(0, 0, 0, 0), FULL);
        // The document names BAD first.
        due("add", x.add(10, 0, 0, 0), BAD);
        due("generators", x.generators(), 6);
    }

    private static void drop() {
        promise = "promise 3";
        ShortVectors x = new ShortVectors();
        due("drop", x.drop(), false);
        x.add(2, 0, 0, 0);
        x.add(3, 0, 0, 0);
        due("has", x.has(1, 0, 0, 0), true);
        due("count", x.count(4), 5);
        dueVector(x, 1, -1, 0, 0, 0);
        dueNearest(x, v(5, 0, 0, 0), 0, 5, 0, 0, 0);
        due("drop", x.drop(), true);
        due("has", x.has(1, 0, 0, 0), false);
        due("has", x.has(3, 0, 0, 0), false);
        due("has", x.has(2, 0, 0, 0), true);
        due("count", x.count(4), 3);
        due("volume", x.volume(), 4);
        due("minimum", x.minimum(1), 4);
        dueVector(x, 1, -2, 0, 0, 0);
        dueNearest(x, v(5, 0, 0, 0), 1, 4, 0, 0, 0);
        due("add", x.add(0, 5, 0, 0), 1);
        due("spare", x.spare(1), false);
        due("rank", x.rank(), 2);
        due("drop", x.drop(), true);
        due("drop", x.drop(), true);
        due("drop", x.drop(), false);
        dueEmpty(x);
        due("add", x.add(1, 0, 0, 0), 0);
    }

    private static void generators() {
        promise = "promise 4";
        ShortVectors x = new ShortVectors();
        for (int k = 0; k < 6; k++) {
            due("generators", x.generators(), k);
            x.add(1, 0, 0, 0);
        }
        due("generators", x.generators(), 6);
        x.drop();
        due("generators", x.generators(), 5);
    }

    private static void rank() {
        promise = "promise 5";
        due("rank", lattice(v(0, 0, 0, 0), v(0, 0, 0, 0)).rank(), 0);
        due("rank", lattice(v(2, -4, 6, 8), v(-1, 2, -3, -4), v(3, -6, 9, 9)).rank(), 2);
        due("rank", lattice(v(9, 9, 9, 9), v(-6, -6, -6, -6)).rank(), 1);
        due("rank", lattice(v(1, -1, 0, 0), v(0, 1, -1, 0), v(0, 0, 1, -1), v(1, 0, 0, -1)).rank(), 3);
        due("rank", lattice(v(0, 0, 0, 1), v(0, 0, 1, 1), v(0, 1, 1, 1), v(1, 1, 1, 1)).rank(), 4);
    }

    private static void volume() {
        promise = "promise 6";
        due("volume", lattice(v(0, 0, 0, 0)).volume(), 1);
        due("volume", lattice(v(3, 4, 0, 0)).volume(), 25);
        due("volume", lattice(v(4, 4, 0, 0), v(6, 6, 0, 0)).volume(), 8);
        due("volume", lattice(v(1, 2, 2, 0), v(0, 0, 0, 5)).volume(), 225);
        due("volume", lattice(v(1, -1, 0, 0), v(0, 1, -1, 0), v(0, 0, 1, -1)).volume(), 4);
        due("volume", diagonal(9, 8, 7, 5).volume(), 2520L * 2520L);
        due("volume", lattice(v(6, 0, 0, 0), v(4, 0, 0, 0), v(9, 0, 0, 0)).volume(), 1);
        due("volume", greatest().volume(), 324L * 324L * 324L * 324L);
    }

    /** The lattice of the greatest volume: four rows at right angles with coordinates of 9 and -9. */
    private static ShortVectors greatest() {
        return lattice(v(9, 9, 9, 9), v(9, -9, 9, -9), v(9, 9, -9, -9), v(9, -9, -9, 9));
    }

    private static void spare() {
        promise = "promise 7";
        ShortVectors none = new ShortVectors();
        due("spare", none.spare(0), false);
        ShortVectors zero = lattice(v(0, 0, 0, 0));
        due("spare", zero.spare(0), true);
        due("spare", zero.spare(1), false);
        ShortVectors x = lattice(v(2, 0, 0, 0), v(3, 0, 0, 0));
        due("spare", x.spare(0), false);
        due("spare", x.spare(1), false);
        x.add(1, 0, 0, 0);
        for (int k = 0; k < 3; k++) {
            due("spare", x.spare(k), true);
        }
        x.add(0, 1, 0, 0);
        due("spare", x.spare(3), false);
        int[] missing = {-1, 4, 5, 6, LEAST, MOST};
        for (int k : missing) {
            due("spare", x.spare(k), false);
        }
        // A multiple that is not whole does not make a generator spare.
        ShortVectors half = lattice(v(2, 2, 2, 2), v(1, 1, 1, 1), v(3, 3, 3, 4));
        due("spare", half.spare(0), true);
        due("spare", half.spare(1), false);
        due("spare", half.spare(2), false);
        ShortVectors twins = lattice(v(1, 2, 3, 4), v(-1, -2, -3, -4));
        due("spare", twins.spare(0), true);
        due("spare", twins.spare(1), true);
        due("rank", twins.rank(), 1);
    }

    private static void has() {
        promise = "promise 8";
        ShortVectors all = diagonal(1, 1, 1, 1);
        due("has", all.has(1000, -1000, 1000, -1000), true);
        int[] outside = {1001, -1001, LEAST, MOST};
        for (int far : outside) {
            due("has", all.has(far, 0, 0, 0), false);
            due("has", all.has(0, far, 0, 0), false);
            due("has", all.has(0, 0, far, 0), false);
            due("has", all.has(0, 0, 0, far), false);
        }
        ShortVectors x = lattice(v(7, 0, 0, 0), v(0, 3, 3, 0));
        due("has", x.has(994, 999, 999, 0), true);
        due("has", x.has(-994, 999, 999, 0), true);
        due("has", x.has(995, 999, 999, 0), false);
        due("has", x.has(994, 999, 996, 0), false);
        due("has", x.has(994, 1000, 1000, 0), false);
        due("has", x.has(7, 3, 3, 1), false);
        due("has", x.has(0, 0, 0, 0), true);
    }

    private static void order() {
        promise = "promise 9";
        ShortVectors x = diagonal(9, 8, 7, 5);
        due("order", x.order(1, 1, 1, 1), 2520);
        due("order", x.order(-1, 1, -1, 1), 2520);
        due("order", x.order(3, 2, 0, 0), 12);
        due("order", x.order(0, 0, 0, 0), 1);
        due("order", x.order(99, -96, 98, -100), 1);
        due("order", x.order(100, 100, 100, 100), 126);
        int[] outside = {101, -101, LEAST, MOST};
        for (int far : outside) {
            due("order", x.order(far, 0, 0, 0), BAD);
            due("order", x.order(0, far, 0, 0), BAD);
            due("order", x.order(0, 0, far, 0), BAD);
            due("order", x.order(0, 0, 0, far), BAD);
            due("order", new ShortVectors().order(far, 0, 0, 0), BAD);
        }
        due("order", greatest().order(1, 0, 0, 0), 36);
        due("order", greatest().order(1, 1, 0, 0), 18);
        ShortVectors line = lattice(v(4, 8, 0, 0), v(6, 0, 0, 0));
        due("order", line.order(0, 1, 0, 0), 24);
        due("order", line.order(1, 2, 0, 0), 4);
        due("order", line.order(1, 2, 0, 1), 0);
        ShortVectors late = lattice(v(0, 0, 6, 9));
        due("order", late.order(0, 0, 2, 3), 3);
        due("order", late.order(0, 0, 2, 4), 0);
        due("order", late.order(1, 0, 6, 9), 0);
    }

    private static void minimum() {
        promise = "promise 10";
        ShortVectors x = lattice(v(9, 8, 7, 6), v(9, 8, 7, 5));
        due("minimum", x.minimum(1), 1);
        due("minimum", x.minimum(2), 194);
        int[] outside = {3, 0, -1, 4, 5, LEAST, MOST};
        for (int i : outside) {
            due("minimum", x.minimum(i), BAD);
        }
        // The minima are reached by (1, 1, 1, 1) and its like too, which stand closer than the generators seem to.
        ShortVectors centred = lattice(v(2, 0, 0, 0), v(0, 2, 0, 0), v(0, 0, 2, 0), v(1, 1, 1, 1));
        ShortVectors deep = diagonal(9, 1, 3, 2);
        int[] sorted = {1, 4, 9, 81};
        for (int i = 1; i <= 4; i++) {
            due("minimum", centred.minimum(i), 4);
            due("minimum", deep.minimum(i), sorted[i - 1]);
            due("minimum", greatest().minimum(i), 324);
        }
        due("minimum", deep.minimum(5), BAD);
        due("minimum", lattice(v(0, 0, 0, 0)).minimum(1), BAD);
    }

    /** Jacobi's count of the ways to write n as a sum of four squares. */
    private static int sumsOfFourSquares(int n) {
        int sum = n == 0 ? 1 : 0;
        for (int d = 1; d <= n; d++) {
            sum += n % d == 0 && d % 4 != 0 ? 8 * d : 0;
        }
        return sum;
    }

    private static void count() {
        promise = "promise 11";
        ShortVectors all = diagonal(1, 1, 1, 1);
        ShortVectors twice = diagonal(2, 2, 2, 2);
        int sum = 0;
        for (int m = 0; m <= 40; m++) {
            sum += sumsOfFourSquares(m);
            due("count(" + m + ")", all.count(m), sum);
            if (m <= 10) {
                due("count", twice.count(4 * m), sum);
                due("count", twice.count(Math.min(40, 4 * m + 3)), sum);
            }
        }
        int[] outside = {-1, 41, LEAST, MOST};
        for (int m : outside) {
            due("count", all.count(m), BAD);
            due("count", new ShortVectors().count(m), BAD);
        }
        due("count", greatest().count(40), 1);
        due("count", lattice(v(2, 0, 6, 0)).count(39), 1);
        due("count", lattice(v(2, 0, 6, 0)).count(40), 3);
        due("count", lattice(v(0, 0, 0, 1)).count(40), 13);
        // Short sums of long generators: (1, 0, 0, 0) times -6 .. 6.
        due("count", lattice(v(9, 9, 9, 9), v(8, 9, 9, 9)).count(40), 13);
    }

    private static void vector() {
        promise = "promise 12";
        ShortVectors all = diagonal(1, 1, 1, 1);
        int[][] first = {
            v(0, 0, 0, 0), v(-1, 0, 0, 0), v(0, -1, 0, 0), v(0, 0, -1, 0), v(0, 0, 0, -1), v(0, 0, 0, 1),
            v(0, 0, 1, 0), v(0, 1, 0, 0), v(1, 0, 0, 0), v(-1, -1, 0, 0), v(-1, 0, -1, 0), v(-1, 0, 0, -1),
            v(-1, 0, 0, 1), v(-1, 0, 1, 0), v(-1, 1, 0, 0), v(0, -1, -1, 0), v(0, -1, 0, -1),
        };
        for (int k = 0; k < first.length; k++) {
            dueVector(all, k, first[k]);
        }
        dueVector(all, 32, 1, 1, 0, 0);
        dueVector(all, 33, -1, -1, -1, 0);
        dueVector(all, 40, -1, 0, 1, 1);
        int[] outside = {-1, 4, LEAST, MOST};
        for (int axis : outside) {
            due("vector", all.vector(0, axis), NONE);
            due("vector", new ShortVectors().vector(0, axis), NONE);
        }
        int[] beyond = {-1, 41, 42, LEAST, MOST};
        for (int k : beyond) {
            dueVector(all, k, NONE, NONE, NONE, NONE);
        }
        ShortVectors zero = lattice(v(0, 0, 0, 0));
        dueVector(zero, 0, 0, 0, 0, 0);
        dueVector(zero, 1, NONE, NONE, NONE, NONE);
    }

    private static void vectorOfOneRow() {
        ShortVectors line = lattice(v(9, -9, 9, 9));
        ShortVectors pair = lattice(v(0, 0, 0, 1), v(0, 9, 9, 9));
        for (int k = 1; k <= 20; k++) {
            dueVector(line, 2 * k - 1, -9 * k, 9 * k, -9 * k, -9 * k);
            dueVector(line, 2 * k, 9 * k, -9 * k, 9 * k, 9 * k);
        }
        // The other row's square is 162: its first vectors stand between those of 12 and of 13.
        dueVector(pair, 24, 0, 0, 0, 12);
        dueVector(pair, 25, 0, -9, -9, 0);
        dueVector(pair, 26, 0, 9, 9, 0);
        dueVector(pair, 27, 0, -9, -9, -1);
        dueVector(pair, 31, 0, -9, -9, -2);
        dueVector(pair, 35, 0, 0, 0, -13);
        dueVector(pair, 36, 0, 0, 0, 13);
        dueVector(pair, 37, 0, -9, -9, -3);
        dueVector(pair, 40, 0, 9, 9, 3);
    }

    private static void distance() {
        promise = "promise 13";
        ShortVectors twice = diagonal(2, 2, 2, 2);
        due("distance", twice.distance(1, 1, 1, 1), 4);
        due("distance", twice.distance(-29, 29, -29, 29), 4);
        due("distance", twice.distance(30, 30, 30, -30), 0);
        int[] outside = {31, -31, LEAST, MOST};
        for (int far : outside) {
            due("distance", twice.distance(far, 0, 0, 0), BAD);
            due("distance", twice.distance(0, far, 0, 0), BAD);
            due("distance", twice.distance(0, 0, far, 0), BAD);
            due("distance", twice.distance(0, 0, 0, far), BAD);
            due("distance", new ShortVectors().distance(0, 0, 0, far), BAD);
        }
        ShortVectors line = lattice(v(1, 1, 0, 0));
        due("distance", line.distance(30, -30, 30, -30), 3600);
        due("distance", line.distance(30, 29, 0, 0), 1);
        due("distance", line.distance(30, 28, 3, 4), 27);
        ShortVectors plane = lattice(v(1, -1, 0, 0), v(0, 1, -1, 0), v(0, 0, 1, -1));
        due("distance", plane.distance(30, 30, 30, 30), 3600);
        due("distance", plane.distance(30, 30, 30, 29), 3541);
        due("distance", greatest().distance(0, 0, 0, 0), 0);
        due("distance", greatest().distance(9, 0, 0, 0), 81);
        due("distance", greatest().distance(18, 0, 0, 0), 324);
    }

    private static void nearest() {
        promise = "promise 14";
        ShortVectors twice = diagonal(2, 2, 2, 2);
        dueNearest(twice, v(1, 1, 1, 1), 4, 0, 0, 0, 0);
        dueNearest(twice, v(-1, 1, -29, 30), 3, -2, 0, -30, 30);
        dueNearest(lattice(v(1, 1, 0, 0)), v(30, 29, 0, 0), 1, 29, 29, 0, 0);
        dueNearest(lattice(v(1, 1, 0, 0)), v(30, -30, 30, -30), 3600, 0, 0, 0, 0);
        dueNearest(lattice(v(1, -1, 0, 0)), v(0, 1, 9, 9), 163, -1, 1, 0, 0);
        dueNearest(lattice(v(9, 8, 7, 6), v(9, 8, 7, 5)), v(18, 15, 14, 29), 1, 18, 16, 14, 29);
        // The sums of any of the four rows are equally near; of these, 0 begins with the least coordinate.
        dueNearest(greatest(), v(18, 0, 0, 0), 324, 0, 0, 0, 0);
        int[] outside = {31, -31, LEAST, MOST};
        for (int far : outside) {
            due("nearest", twice.nearest(far, 0, 0, 0, 0), NONE);
            due("nearest", twice.nearest(0, far, 0, 0, 1), NONE);
            due("nearest", twice.nearest(0, 0, far, 0, 2), NONE);
            due("nearest", twice.nearest(0, 0, 0, far, 3), NONE);
        }
        int[] beyond = {-1, 4, LEAST, MOST};
        for (int axis : beyond) {
            due("nearest", twice.nearest(0, 0, 0, 0, axis), NONE);
            due("nearest", new ShortVectors().nearest(0, 0, 0, 0, axis), NONE);
        }
    }

    private static void refusalsChangeNothing() {
        promise = "refusals";
        ShortVectors x = diagonal(2, 2, 2, 2);
        x.count(40);
        x.vector(40, 0);
        x.add(10, 1, 1, 1);
        x.add(1, 1, 1, -10);
        x.has(1001, 1, 1, 1);
        x.order(101, 1, 1, 1);
        x.distance(31, 1, 1, 1);
        x.nearest(31, 1, 1, 1, 0);
        x.minimum(9);
        x.vector(99, 0);
        x.count(99);
        x.spare(99);
        due("generators", x.generators(), 4);
        due("volume", x.volume(), 256);
        due("has", x.has(1, 1, 1, 1), false);
        due("count", x.count(4), 9);
        dueVector(x, 1, -2, 0, 0, 0);
        dueNearest(x, v(3, 1, 1, 1), 4, 2, 0, 0, 0);
        x.add(1, 1, 1, 1);
        x.add(0, 0, 0, 0);
        due("add", x.add(1, 0, 0, 0), FULL);
        due("count", x.count(4), 25);
        due("volume", x.volume(), 64);
    }

    private static void objectsAreApart() {
        promise = "two objects";
        ShortVectors one = lattice(v(2, 0, 0, 0));
        ShortVectors other = lattice(v(0, 3, 0, 0));
        due("count", one.count(9), 3);
        due("count", other.count(9), 3);
        due("has", one.has(0, 3, 0, 0), false);
        due("has", other.has(2, 0, 0, 0), false);
        other.drop();
        due("rank", one.rank(), 1);
        dueEmpty(other);
    }

    /** As many calls as an object is used for, the dearest ones among them. */
    private static void manyCalls() {
        promise = "512 calls";
        ShortVectors x = diagonal(1, 1, 1, 1);
        for (int i = 0; i < 84; i++) {
            due("add", x.add(0, 0, 0, i % 10), 4);
            due("count", x.count(2), 33);
            due("vector", x.vector(40, 3), 1);
            due("distance", x.distance(i % 30, 1, 1, 1), 0);
            due("spare", x.spare(4), true);
            due("drop", x.drop(), true);
        }
    }
}
