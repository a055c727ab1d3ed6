import java.util.ArrayList;
import java.util.Arrays;
import java.util.List;

/** One test for each sentence of the document that names a boundary: both sides of it, and the ends of int. */
public final class BoundariesTest {
    private static final int LEAST = Integer.MIN_VALUE;
    private static final int MOST = Integer.MAX_VALUE;
    private static final int BAD = -1;
    private static final int FULL = -2;
    private static final int NONE = 1000;
    private static final int AXES = 4;
    private static int wrong = 0;
    private static String sentence = "";

    /** A call with four coordinates; a boolean counts 1 or 0. */
    private interface Coordinates {
        long ask(int a, int b, int c, int d);
    }

    private interface Call {
        long ask(ShortVectors x);
    }

    private record Refused(String name, long due, Call call) {
    }

    public static void main(String[] args) {
        noGeneratorsAreTheVectorZeroAlone();
        volumeOfRankZeroIsOne();
        minimumIsOneAtLeast();
        comesBeforeAtTheFirstAxisThatDiffers();
        newObjectHasNoGenerators();
        addIsBadOutside();
        addIsFullAtSix();
        addIsBadEvenWhenFull();
        addNumbersGenerators();
        dropIsFalseWhenThereIsNone();
        dropTakesTheLatest();
        generatorsFromNoneToSix();
        rankFromZeroToFour();
        volumeFromLeastToGreatest();
        spareIsFalseWhenThereIsNone();
        spareOfALoneGenerator();
        hasIsFalseOutside();
        hasAtTheEdge();
        orderIsZeroWhenThereIsNone();
        orderIsBadOutside();
        orderIsOneAtLeast();
        minimumIsBadOutsideTheRank();
        countIsBadOutside();
        countTakesSquaresOfAtMost();
        vectorIsNoneBeyondTheAxes();
        vectorIsNoneBeyondForty();
        vectorIsNoneInRankZero();
        distanceIsBadOutside();
        distanceFromLeastToGreatest();
        nearestIsNoneOutside();
        nearestIsNoneBeyondTheAxes();
        nearestOfSeveralComesFirst();
        nearestMayLieBeyondThePoints();
        refusedCallsChangeNothing();
        answersHoldUpToTheLastCall();
        System.out.println(wrong == 0 ? "all boundaries hold" : wrong + " answers are not as due");
        if (wrong != 0) {
            System.exit(1);
        }
    }

    // ---- tools

    private static void due(String call, long got, long want) {
        if (got != want) {
            wrong++;
            System.out.println(sentence + ": " + call + " answered " + got + ", due is " + want);
        }
    }

    private static void due(String call, boolean got, boolean want) {
        due(call, number(got), number(want));
    }

    private static long number(boolean answer) {
        return answer ? 1 : 0;
    }

    private static int[] v(int a, int b, int c, int d) {
        return new int[] {a, b, c, d};
    }

    private static ShortVectors lattice(int[]... generators) {
        ShortVectors x = new ShortVectors();
        for (int k = 0; k < generators.length; k++) {
            int[] g = generators[k];
            due("add" + Arrays.toString(g), x.add(g[0], g[1], g[2], g[3]), k);
        }
        return x;
    }

    private static int[][] diagonal(int a, int b, int c, int d) {
        return new int[][] {v(a, 0, 0, 0), v(0, b, 0, 0), v(0, 0, c, 0), v(0, 0, 0, d)};
    }

    /** All vectors. */
    private static ShortVectors whole() {
        return lattice(diagonal(1, 1, 1, 1));
    }

    /** Four rows at right angles, as long as they can be: the greatest volume and the greatest minima. */
    private static int[][] greatest() {
        return new int[][] {v(9, 9, 9, 9), v(9, -9, 9, -9), v(9, 9, -9, -9), v(9, -9, -9, 9)};
    }

    /** Lattices of the ranks 0 .. 4. */
    private static int[][] ofRank(int rank) {
        return Arrays.copyOf(diagonal(2, 3, 4, 5), rank);
    }

    /** Numbers beyond the reach: the next ones, the ends of int, and what a byte or a short would take for 0. */
    private static int[] beyond(int reach) {
        return new int[] {
            reach + 1, -reach - 1, reach + 2, -reach - 2, 2 * reach + 1, 256 * 256, -256 * 256, 1 << 30,
            LEAST, LEAST + 1, MOST, MOST - 1,
        };
    }

    /** Each axis in turn is beyond the reach, the others are 0 or as far as the reach goes; then all of them are. */
    private static void dueBeyond(String call, int reach, long want, Coordinates coordinates) {
        int[] fillers = {0, reach, -reach};
        for (int far : beyond(reach)) {
            for (int filler : fillers) {
                for (int axis = 0; axis < AXES; axis++) {
                    int[] t = v(filler, filler, filler, filler);
                    t[axis] = far;
                    due(call + Arrays.toString(t), coordinates.ask(t[0], t[1], t[2], t[3]), want);
                }
            }
            // Numbers whose sum is 0, so that only a look at each of them can tell.
            due(call + " " + far + " at all axes", coordinates.ask(far, -far, far, -far), want);
            due(call + " " + far + " at two axes", coordinates.ask(0, far, -far, 0), want);
        }
    }

    private static long squareOf(int... t) {
        long sum = 0;
        for (int coordinate : t) {
            sum += (long) coordinate * coordinate;
        }
        return sum;
    }

    private static void dueVector(ShortVectors x, int k, int... want) {
        for (int axis = 0; axis < AXES; axis++) {
            due("vector(" + k + ", " + axis + ")", x.vector(k, axis), want[axis]);
        }
    }

    private static void dueNearest(ShortVectors x, int[] t, int... want) {
        for (int axis = 0; axis < AXES; axis++) {
            due("nearest" + Arrays.toString(t) + " on " + axis, x.nearest(t[0], t[1], t[2], t[3], axis), want[axis]);
        }
        long square = squareOf(want[0] - t[0], want[1] - t[1], want[2] - t[2], want[3] - t[3]);
        due("distance" + Arrays.toString(t), x.distance(t[0], t[1], t[2], t[3]), square);
    }

    // ---- terms

    /** Objects whose lattice is the vector 0 alone, by all the ways that lead there. */
    private static List<ShortVectors> ofZeroAlone() {
        ShortVectors dropped = lattice(greatest());
        for (int k = 0; k < 4; k++) {
            due("drop", dropped.drop(), true);
        }
        ShortVectors refused = new ShortVectors();
        due("add", refused.add(10, 0, 0, 0), BAD);
        due("drop", refused.drop(), false);
        ShortVectors uncovered = lattice(v(0, 0, 0, 0), v(1, 2, 3, 4));
        due("count", uncovered.count(40), 3);
        due("drop", uncovered.drop(), true);
        int[] zero = v(0, 0, 0, 0);
        List<ShortVectors> all = new ArrayList<>();
        all.add(new ShortVectors());
        all.add(dropped);
        all.add(refused);
        all.add(uncovered);
        all.add(lattice(zero));
        all.add(lattice(zero, zero, zero, zero, zero, zero));
        return all;
    }

    private static void noGeneratorsAreTheVectorZeroAlone() {
        sentence = "terms: with no generators it is the vector 0 alone";
        int[][] others = {
            v(1, 0, 0, 0), v(0, -1, 0, 0), v(0, 0, 1, 0), v(0, 0, 0, -1), v(30, 30, 30, 30), v(-30, 30, -30, 30),
        };
        for (ShortVectors x : ofZeroAlone()) {
            due("rank", x.rank(), 0);
            due("has 0", x.has(0, 0, 0, 0), true);
            due("order 0", x.order(0, 0, 0, 0), 1);
            due("count(0)", x.count(0), 1);
            due("count(40)", x.count(40), 1);
            dueVector(x, 0, 0, 0, 0, 0);
            dueNearest(x, v(0, 0, 0, 0), 0, 0, 0, 0);
            for (int[] t : others) {
                due("has" + Arrays.toString(t), x.has(t[0], t[1], t[2], t[3]), false);
                due("order" + Arrays.toString(t), x.order(t[0], t[1], t[2], t[3]), 0);
                dueNearest(x, t, 0, 0, 0, 0);
                due("distance", x.distance(t[0], t[1], t[2], t[3]), squareOf(t));
            }
        }
    }

    private static void volumeOfRankZeroIsOne() {
        sentence = "terms: the volume squared is 1 for the rank 0";
        for (ShortVectors x : ofZeroAlone()) {
            due("volume", x.volume(), 1);
        }
        ShortVectors x = new ShortVectors();
        due("add", x.add(0, 0, 3, 0), 0);
        due("volume", x.volume(), 9);
        due("drop", x.drop(), true);
        due("volume", x.volume(), 1);
    }

    private static void minimumIsOneAtLeast() {
        sentence = "terms: minimum i is 1 at least";
        for (int i = 1; i <= 4; i++) {
            due("minimum(" + i + ")", whole().minimum(i), 1);
            due("minimum(" + i + ")", lattice(greatest()).minimum(i), 324);
        }
        // The vector 0 has the square 0, but alone it is the sum of no multiples.
        due("minimum(1)", lattice(v(0, 0, 0, 0), v(0, 0, 0, 1)).minimum(1), 1);
    }

    private static void comesBeforeAtTheFirstAxisThatDiffers() {
        sentence = "terms: before, at the first axis on which they differ";
        for (int axis = 0; axis < AXES; axis++) {
            int[] g = v(0, 0, 0, 0);
            g[axis] = 1;
            int[] less = v(0, 0, 0, 0);
            less[axis] = -1;
            ShortVectors x = lattice(g);
            dueVector(x, 1, less);
            dueVector(x, 2, g);
        }
        // Of the same square: the first axis decides, however great the others are.
        ShortVectors x = lattice(v(1, 0, 0, 7), v(-1, 5, 5, 0), v(1, -5, 0, 5));
        int[] before = v(x.vector(0, 0), x.vector(0, 1), x.vector(0, 2), x.vector(0, 3));
        for (int k = 1; k <= 40; k++) {
            int[] next = v(x.vector(k, 0), x.vector(k, 1), x.vector(k, 2), x.vector(k, 3));
            boolean inOrder = squareOf(before) < squareOf(next)
                    || squareOf(before) == squareOf(next) && Arrays.compare(before, next) < 0;
            due("vector " + (k - 1) + " before vector " + k, inOrder, true);
            before = next;
        }
    }

    // ---- promises 1 to 6

    private static void newObjectHasNoGenerators() {
        sentence = "promise 1: no generators";
        due("generators", new ShortVectors().generators(), 0);
        due("drop", new ShortVectors().drop(), false);
        due("first number", new ShortVectors().add(1, 1, 1, 1), 0);
    }

    private static void addIsBadOutside() {
        sentence = "promise 2: BAD when a coordinate is not -9 .. 9";
        for (int axis = 0; axis < AXES; axis++) {
            for (int edge = -9; edge <= 9; edge++) {
                int[] g = v(0, 0, 0, 0);
                g[axis] = edge;
                ShortVectors x = new ShortVectors();
                due("add" + Arrays.toString(g), x.add(g[0], g[1], g[2], g[3]), 0);
                due("generators", x.generators(), 1);
                due("volume", x.volume(), edge == 0 ? 1 : edge * edge);
            }
        }
        due("add", new ShortVectors().add(-9, -9, -9, -9), 0);
        due("add", new ShortVectors().add(9, 9, 9, 9), 0);
        ShortVectors none = new ShortVectors();
        dueBeyond("add", 9, BAD, none::add);
        due("generators", none.generators(), 0);
        due("rank", none.rank(), 0);
        ShortVectors some = lattice(v(2, 0, 0, 0));
        dueBeyond("add", 9, BAD, some::add);
        due("generators", some.generators(), 1);
        due("volume", some.volume(), 4);
    }

    private static void addIsFullAtSix() {
        sentence = "promise 2: FULL when there are 6";
        ShortVectors x = lattice(v(2, 0, 0, 0), v(4, 0, 0, 0), v(6, 0, 0, 0), v(8, 0, 0, 0), v(0, 0, 0, 0));
        due("generators", x.generators(), 5);
        due("the sixth add", x.add(0, 2, 0, 0), 5);
        int[][] seventh = {v(1, 0, 0, 0), v(0, 0, 0, 0), v(2, 0, 0, 0), v(9, -9, 9, -9), v(-9, 9, -9, 9)};
        for (int[] g : seventh) {
            due("the seventh add", x.add(g[0], g[1], g[2], g[3]), FULL);
        }
        due("generators", x.generators(), 6);
        due("volume", x.volume(), 16);
        due("has", x.has(1, 0, 0, 0), false);
        due("drop", x.drop(), true);
        due("the sixth add again", x.add(0, 0, 1, 0), 5);
        due("the seventh add again", x.add(0, 0, 1, 0), FULL);
        due("volume", x.volume(), 4);
    }

    private static void addIsBadEvenWhenFull() {
        sentence = "promise 2: BAD is named before FULL";
        ShortVectors x = lattice(v(1, 0, 0, 0), v(1, 0, 0, 0), v(1, 0, 0, 0), v(1, 0, 0, 0), v(1, 0, 0, 0),
                v(1, 0, 0, 0));
        dueBeyond("add", 9, BAD, x::add);
        due("generators", x.generators(), 6);
        due("count", x.count(1), 3);
    }

    private static void addNumbersGenerators() {
        sentence = "terms: the numbers 0, 1, .. in the order in which they were added";
        ShortVectors x = new ShortVectors();
        for (int round = 0; round < 3; round++) {
            for (int k = 0; k < 6; k++) {
                due("add", x.add(0, 0, 0, 10), BAD);
                due("add", x.add(k, round, 0, 1), k);
            }
            for (int k = 0; k < 6; k++) {
                due("drop", x.drop(), true);
            }
        }
        due("add", x.add(5, 0, 0, 0), 0);
        due("add", x.add(0, 5, 0, 0), 1);
        due("drop", x.drop(), true);
        due("add", x.add(0, 0, 5, 0), 1);
    }

    private static void dropIsFalseWhenThereIsNone() {
        sentence = "promise 3: false when there is none";
        for (int n = 0; n <= 6; n++) {
            ShortVectors x = new ShortVectors();
            for (int k = 0; k < n; k++) {
                due("add", x.add(k, 1, 0, 0), k);
            }
            for (int k = 0; k < n; k++) {
                due("drop of " + (n - k), x.drop(), true);
            }
            due("drop of none", x.drop(), false);
            due("drop of none again", x.drop(), false);
            due("generators", x.generators(), 0);
            due("add", x.add(0, 0, 0, 1), 0);
            due("drop", x.drop(), true);
            due("drop", x.drop(), false);
        }
        ShortVectors refused = new ShortVectors();
        due("add", refused.add(0, 0, 0, -10), BAD);
        due("drop", refused.drop(), false);
    }

    private static void dropTakesTheLatest() {
        sentence = "promise 3: takes the generator that was added latest away";
        int[] volumes = {1, 64, 16, 4, 1};
        ShortVectors x = lattice(v(8, 0, 0, 0), v(4, 0, 0, 0), v(2, 0, 0, 0), v(1, 0, 0, 0), v(0, 0, 0, 0),
                v(0, 0, 0, 3));
        due("volume", x.volume(), 9);
        due("add", x.add(0, 0, 0, 1), FULL);
        due("drop", x.drop(), true);
        due("add", x.add(0, 0, 0, 10), BAD);
        due("volume", x.volume(), 1);
        due("drop", x.drop(), true);
        due("volume", x.volume(), 1);
        for (int left = 4; left > 0; left--) {
            due("volume of " + left, x.volume(), volumes[left]);
            due("drop of " + left, x.drop(), true);
        }
        due("volume", x.volume(), 1);
        due("rank", x.rank(), 0);
    }

    private static void generatorsFromNoneToSix() {
        sentence = "promise 4: how many generators there are";
        ShortVectors x = new ShortVectors();
        for (int k = 0; k < 6; k++) {
            due("generators", x.generators(), k);
            // Generators that add nothing to the lattice are counted too.
            due("add", x.add(0, 0, 0, k / 4), k);
        }
        due("generators", x.generators(), 6);
        due("add", x.add(0, 0, 0, 0), FULL);
        due("generators", x.generators(), 6);
        for (int k = 5; k >= 0; k--) {
            due("drop", x.drop(), true);
            due("generators", x.generators(), k);
        }
        due("drop", x.drop(), false);
        due("generators", x.generators(), 0);
    }

    private static void rankFromZeroToFour() {
        sentence = "promise 5: the rank";
        for (int rank = 0; rank <= 4; rank++) {
            due("rank", lattice(ofRank(rank)).rank(), rank);
            ShortVectors x = lattice(Arrays.copyOf(greatest(), rank));
            due("rank", x.rank(), rank);
            due("add", x.add(0, 0, 0, 0), rank);
            due("rank", x.rank(), rank);
        }
        // Six generators, no more than four of them apart.
        ShortVectors x = lattice(v(1, 2, 3, 4), v(4, 3, 2, 1), v(1, 3, 2, 4), v(-9, 9, 0, 1), v(7, 7, -7, 0),
                v(0, 1, 0, 9));
        due("rank", x.rank(), 4);
        // A hair's breadth from a line, and on it.
        due("rank", lattice(v(9, 9, 9, 9), v(9, 9, 9, 8)).rank(), 2);
        due("rank", lattice(v(9, 9, 9, 9), v(-8, -8, -8, -8)).rank(), 1);
    }

    private static void volumeFromLeastToGreatest() {
        sentence = "promise 6: the volume squared";
        due("volume", whole().volume(), 1);
        due("volume", lattice(v(0, 0, 0, 1)).volume(), 1);
        due("volume", lattice(v(9, 9, 9, 9)).volume(), 324);
        due("volume", lattice(Arrays.copyOf(greatest(), 2)).volume(), 324L * 324);
        due("volume", lattice(Arrays.copyOf(greatest(), 3)).volume(), 324L * 324 * 324);
        // More than an int holds.
        due("volume", lattice(greatest()).volume(), 324L * 324 * 324 * 324);
        due("volume", lattice(diagonal(-9, 9, -9, 9)).volume(), 6561L * 6561);
    }

    // ---- promises 7 to 9

    private static void spareIsFalseWhenThereIsNone() {
        sentence = "promise 7: false when there is none";
        for (int n = 0; n <= 6; n++) {
            ShortVectors x = new ShortVectors();
            for (int k = 0; k < n; k++) {
                due("add", x.add(0, 0, 0, 0), k);
            }
            // Every generator that there is is 0 and so is spare: only a missing one answers false.
            for (int k = -3; k <= 9; k++) {
                due("spare(" + k + ") of " + n, x.spare(k), k >= 0 && k < n);
            }
            int[] far = {LEAST, LEAST + 1, MOST, MOST - 1, 256, -256, 65536, 1 << 30};
            for (int k : far) {
                due("spare(" + k + ") of " + n, x.spare(k), false);
            }
        }
        ShortVectors x = lattice(v(1, 0, 0, 0), v(1, 0, 0, 0));
        due("spare(1)", x.spare(1), true);
        due("drop", x.drop(), true);
        due("spare(1) after drop", x.spare(1), false);
        due("spare(0) after drop", x.spare(0), false);
    }

    private static void spareOfALoneGenerator() {
        sentence = "promise 7: a sum of whole multiples of the others";
        // Of no others the only sum is the vector 0.
        due("spare", lattice(v(0, 0, 0, 0)).spare(0), true);
        due("spare", lattice(v(0, 0, 0, 1)).spare(0), false);
        // Six generators: each is a sum of the others until one is dropped; at last none is.
        ShortVectors x = lattice(v(6, 0, 0, 0), v(0, 6, 0, 0), v(0, 0, 6, 0), v(0, 0, 0, 6), v(3, 3, 3, 3),
                v(9, 9, 9, 9));
        for (int k = 0; k < 6; k++) {
            due("spare(" + k + ")", x.spare(k), true);
        }
        due("drop", x.drop(), true);
        // Half the sum of the others, and so a sum of multiples, but not of whole ones.
        due("spare(4)", x.spare(4), false);
        due("drop", x.drop(), true);
        for (int k = 0; k < 4; k++) {
            due("spare(" + k + ")", x.spare(k), false);
        }
    }

    private static void hasIsFalseOutside() {
        sentence = "promise 8: false when a coordinate is not -1000 .. 1000";
        ShortVectors all = whole();
        dueBeyond("has", 1000, 0, (a, b, c, d) -> number(all.has(a, b, c, d)));
        due("has", all.has(1000, 1000, 1000, 1000), true);
        due("has", all.has(-1000, -1000, -1000, -1000), true);
        for (int axis = 0; axis < AXES; axis++) {
            int[] t = v(0, 0, 0, 0);
            for (int edge = -1002; edge <= 1002; edge += edge == -998 ? 1996 : 1) {
                t[axis] = edge;
                boolean within = edge >= -1000 && edge <= 1000;
                due("has" + Arrays.toString(t), whole().has(t[0], t[1], t[2], t[3]), within);
            }
        }
    }

    private static void hasAtTheEdge() {
        sentence = "promise 8: whether a vector is in the lattice";
        ShortVectors x = lattice(diagonal(1, 2, 5, 8));
        due("has", x.has(-999, 1000, -1000, 1000), true);
        due("has", x.has(1000, 999, 1000, 1000), false);
        due("has", x.has(1000, 1000, 999, 1000), false);
        due("has", x.has(1000, 1000, 1000, 999), false);
        due("has", x.has(1000, -1000, 1000, -1000), true);
        ShortVectors far = lattice(v(9, 0, 0, 1), v(0, 9, 0, 1), v(0, 0, 9, 1));
        due("has", far.has(999, 999, 999, 333), true);
        due("has", far.has(-999, -999, -999, -333), true);
        due("has", far.has(999, 999, 999, 334), false);
        due("has", far.has(999, 999, 999, -333), false);
        due("has", far.has(999, 999, 998, 333), false);
    }

    private static void orderIsZeroWhenThereIsNone() {
        sentence = "promise 9: 0 when there is none";
        for (int rank = 0; rank <= 4; rank++) {
            ShortVectors x = lattice(ofRank(rank));
            for (int axis = 0; axis < AXES; axis++) {
                int[] t = v(0, 0, 0, 0);
                t[axis] = 1;
                due("order" + Arrays.toString(t), x.order(t[0], t[1], t[2], t[3]), axis < rank ? axis + 2 : 0);
            }
            due("order of 1 everywhere", x.order(-1, -1, -1, -1), rank == 4 ? 60 : 0);
            due("order of 100 everywhere", x.order(100, -100, 100, -100), rank == 4 ? 3 : 0);
        }
        ShortVectors slant = lattice(v(9, 9, 9, 8));
        due("order", slant.order(9, 9, 9, 9), 0);
        due("order", slant.order(99, 99, 99, 88), 1);
        due("order", slant.order(-99, -99, -99, -88), 1);
        due("order", slant.order(99, 99, 99, -88), 0);
    }

    private static void orderIsBadOutside() {
        sentence = "promise 9: BAD when a coordinate is not -100 .. 100";
        ShortVectors all = whole();
        ShortVectors none = new ShortVectors();
        dueBeyond("order", 100, BAD, all::order);
        // Here no multiple would be in the lattice either: BAD, not 0.
        dueBeyond("order", 100, BAD, none::order);
        due("order", all.order(100, 100, 100, 100), 1);
        due("order", all.order(-100, -100, -100, -100), 1);
        for (int axis = 0; axis < AXES; axis++) {
            int[] t = v(0, 0, 0, 0);
            for (int edge = -102; edge <= 102; edge += edge == -98 ? 196 : 1) {
                t[axis] = edge;
                boolean within = edge >= -100 && edge <= 100;
                due("order" + Arrays.toString(t), whole().order(t[0], t[1], t[2], t[3]), within ? 1 : BAD);
            }
        }
    }

    private static void orderIsOneAtLeast() {
        sentence = "promise 9: the least n of 1, 2, ..";
        due("order", new ShortVectors().order(0, 0, 0, 0), 1);
        ShortVectors x = lattice(diagonal(9, 8, 7, 5));
        due("order", x.order(0, 0, 0, 0), 1);
        due("order", x.order(9, -8, 7, -5), 1);
        due("order", x.order(-9, 8, -7, 5), 1);
        due("order", x.order(1, 1, 1, 1), 2520);
        due("order", x.order(97, -97, 97, -97), 2520);
        due("order", x.order(90, -96, 98, -95), 1);
        due("order", x.order(100, 0, 0, 0), 9);
        // The greatest order of a generator's slope: 9 times over on each axis.
        ShortVectors steep = lattice(v(9, 1, 0, 0), v(0, 9, 1, 0), v(0, 0, 9, 1), v(0, 0, 0, 9));
        due("order", steep.order(1, 0, 0, 0), 6561);
        due("order", steep.order(0, 1, 0, 0), 729);
        due("order", steep.order(0, 0, 1, 0), 81);
        due("order", steep.order(0, 0, 0, 1), 9);
        due("order", steep.order(100, 100, 100, 100), 6561);
    }

    // ---- promises 10 to 14

    private static void minimumIsBadOutsideTheRank() {
        sentence = "promise 10: BAD when i is not 1 .. the rank";
        int[] far = {LEAST, LEAST + 1, MOST, MOST - 1, 257, 65537, -255, -65535};
        for (int rank = 0; rank <= 4; rank++) {
            ShortVectors x = lattice(ofRank(rank));
            for (int i = -3; i <= 8; i++) {
                boolean within = i >= 1 && i <= rank;
                due("minimum(" + i + ") of rank " + rank, x.minimum(i), within ? (i + 1) * (i + 1) : BAD);
            }
            for (int i : far) {
                due("minimum(" + i + ") of rank " + rank, x.minimum(i), BAD);
            }
        }
        // The rank counts, not the generators; and the rank that is now, not an earlier one.
        ShortVectors x = lattice(v(1, 1, 0, 0), v(2, 2, 0, 0), v(3, 3, 0, 0), v(0, 0, 0, 4));
        due("minimum(2)", x.minimum(2), 16);
        due("minimum(3)", x.minimum(3), BAD);
        due("drop", x.drop(), true);
        due("minimum(1)", x.minimum(1), 2);
        due("minimum(2)", x.minimum(2), BAD);
        due("add", x.add(0, 0, 0, 5), 3);
        due("minimum(2)", x.minimum(2), 25);
        for (ShortVectors zero : ofZeroAlone()) {
            for (int i = -1; i <= 4; i++) {
                due("minimum(" + i + ")", zero.minimum(i), BAD);
            }
        }
    }

    private static void countIsBadOutside() {
        sentence = "promise 11: BAD when m is not 0 .. 40";
        int[] far = {-1, -2, -40, 41, 42, 81, 256, 65536, LEAST, LEAST + 1, MOST, MOST - 1};
        for (int rank = 0; rank <= 4; rank++) {
            ShortVectors x = lattice(Arrays.copyOf(diagonal(1, 1, 1, 1), rank));
            for (int m : far) {
                due("count(" + m + ") of rank " + rank, x.count(m), BAD);
            }
            due("count(0) of rank " + rank, x.count(0), 1);
            due("count(1) of rank " + rank, x.count(1), 1 + 2 * rank);
            due("count(39) of rank " + rank, x.count(39), ball(rank, 39));
            due("count(40) of rank " + rank, x.count(40), ball(rank, 40));
        }
    }

    /** How many vectors with so many coordinates have a square of at most m. */
    private static int ball(int coordinates, int m) {
        if (coordinates == 0) {
            return 1;
        }
        int sum = 0;
        for (int t = -6; t <= 6; t++) {
            sum += t * t <= m ? ball(coordinates - 1, m - t * t) : 0;
        }
        return sum;
    }

    private static void countTakesSquaresOfAtMost() {
        sentence = "promise 11: a square of at most m";
        for (int[] g : new int[][] {v(2, 0, 6, 0), v(-6, 0, 0, -2), v(4, 4, -2, 2)}) {
            due("count(39)", lattice(g).count(39), 1);
            due("count(40)", lattice(g).count(40), 3);
        }
        due("count(40)", lattice(v(4, 5, 0, 0)).count(40), 1);
        due("count(40)", lattice(v(6, 2, 1, 0)).count(40), 1);
        ShortVectors line = lattice(v(0, 0, 0, 1));
        for (int m = 0; m <= 40; m++) {
            int root = 0;
            while ((root + 1) * (root + 1) <= m) {
                root++;
            }
            due("count(" + m + ")", line.count(m), 2 * root + 1);
        }
    }

    private static void vectorIsNoneBeyondTheAxes() {
        sentence = "promise 12: NONE when axis is not 0 .. 3";
        int[] far = {-1, -2, -4, 4, 5, 256, 65536, LEAST, LEAST + 1, MOST, MOST - 1};
        int[] numbers = {-1, 0, 1, 40, 41, LEAST, MOST};
        for (int rank = 0; rank <= 4; rank++) {
            ShortVectors x = lattice(ofRank(rank));
            for (int k : numbers) {
                for (int axis : far) {
                    due("vector(" + k + ", " + axis + ") of rank " + rank, x.vector(k, axis), NONE);
                }
            }
            dueVector(x, 0, 0, 0, 0, 0);
        }
        ShortVectors x = lattice(v(5, 6, 7, 8));
        dueVector(x, 2, 5, 6, 7, 8);
        dueVector(x, 1, -5, -6, -7, -8);
    }

    private static void vectorIsNoneBeyondForty() {
        sentence = "promise 12: NONE when k is not 0 .. 40";
        int[] far = {-1, -2, -40, 41, 42, 82, 256, 65536, LEAST, LEAST + 1, MOST, MOST - 1};
        for (int rank = 1; rank <= 4; rank++) {
            ShortVectors x = lattice(ofRank(rank));
            for (int k : far) {
                dueVector(x, k, NONE, NONE, NONE, NONE);
            }
            due("vector 40 is there", x.vector(40, 0) != NONE, true);
            due("vector 0 is 0", x.vector(0, 0), 0);
        }
        // The longest that can be listed: 20 times the longest generator.
        ShortVectors line = lattice(v(9, -9, 9, 9));
        dueVector(line, 0, 0, 0, 0, 0);
        dueVector(line, 1, -9, 9, -9, -9);
        dueVector(line, 39, -180, 180, -180, -180);
        dueVector(line, 40, 180, -180, 180, 180);
        dueVector(line, 41, NONE, NONE, NONE, NONE);
        // 8 vectors of the square 1, 24 of 2, and 8 of the 32 with the square 3.
        dueVector(whole(), 8, 1, 0, 0, 0);
        dueVector(whole(), 9, -1, -1, 0, 0);
        dueVector(whole(), 32, 1, 1, 0, 0);
        dueVector(whole(), 33, -1, -1, -1, 0);
        dueVector(whole(), 40, -1, 0, 1, 1);
        dueVector(whole(), 41, NONE, NONE, NONE, NONE);
    }

    private static void vectorIsNoneInRankZero() {
        sentence = "promise 12: NONE when the rank is 0 and k is not 0";
        for (ShortVectors x : ofZeroAlone()) {
            dueVector(x, 0, 0, 0, 0, 0);
            for (int k : new int[] {-1, 1, 2, 39, 40, 41, LEAST, MOST}) {
                dueVector(x, k, NONE, NONE, NONE, NONE);
            }
        }
        ShortVectors x = new ShortVectors();
        dueVector(x, 1, NONE, NONE, NONE, NONE);
        due("add", x.add(0, 0, 0, 2), 0);
        dueVector(x, 1, 0, 0, 0, -2);
        dueVector(x, 40, 0, 0, 0, 40);
        due("drop", x.drop(), true);
        dueVector(x, 1, NONE, NONE, NONE, NONE);
        dueVector(x, 40, NONE, NONE, NONE, NONE);
        dueVector(x, 0, 0, 0, 0, 0);
    }

    private static void distanceIsBadOutside() {
        sentence = "promise 13: BAD when a coordinate is not -30 .. 30";
        ShortVectors all = whole();
        ShortVectors none = new ShortVectors();
        dueBeyond("distance", 30, BAD, all::distance);
        dueBeyond("distance", 30, BAD, none::distance);
        for (int axis = 0; axis < AXES; axis++) {
            int[] t = v(0, 0, 0, 0);
            for (int edge = -32; edge <= 32; edge++) {
                t[axis] = edge;
                boolean within = edge >= -30 && edge <= 30;
                due("distance" + Arrays.toString(t), whole().distance(t[0], t[1], t[2], t[3]), within ? 0 : BAD);
                long square = within ? edge * edge : BAD;
                due("distance" + Arrays.toString(t), new ShortVectors().distance(t[0], t[1], t[2], t[3]), square);
            }
        }
    }

    private static void distanceFromLeastToGreatest() {
        sentence = "promise 13: the least square that a vector of the lattice less this vector has";
        due("distance", whole().distance(30, -30, 30, -30), 0);
        due("distance", new ShortVectors().distance(30, -30, 30, -30), 3600);
        due("distance", new ShortVectors().distance(-30, -30, -30, -30), 3600);
        due("distance", lattice(v(1, 1, 0, 0)).distance(30, -30, 30, -30), 3600);
        due("distance", lattice(v(9, 9, 9, 9)).distance(30, 30, 30, 30), 36);
        due("distance", lattice(v(9, 9, 9, 9)).distance(-30, -30, -30, -30), 36);
        // The middle between the rows of the greatest lattice is as far away as a point can be from one of rank 4.
        due("distance", lattice(greatest()).distance(18, 0, 0, 0), 324);
        due("distance", lattice(greatest()).distance(-18, 0, 0, 0), 324);
        due("distance", lattice(greatest()).distance(17, 0, 0, 0), 289);
    }

    private static void nearestIsNoneOutside() {
        sentence = "promise 14: NONE when a coordinate is not -30 .. 30";
        for (int axis = 0; axis < AXES; axis++) {
            int on = axis;
            ShortVectors all = whole();
            ShortVectors none = new ShortVectors();
            dueBeyond("nearest on " + on, 30, NONE, (a, b, c, d) -> all.nearest(a, b, c, d, on));
            dueBeyond("nearest on " + on, 30, NONE, (a, b, c, d) -> none.nearest(a, b, c, d, on));
            int[] t = v(0, 0, 0, 0);
            for (int edge = -32; edge <= 32; edge++) {
                t[axis] = edge;
                boolean within = edge >= -30 && edge <= 30;
                due("nearest" + Arrays.toString(t), whole().nearest(t[0], t[1], t[2], t[3], on), within ? edge : NONE);
                int empty = new ShortVectors().nearest(t[0], t[1], t[2], t[3], on);
                due("nearest" + Arrays.toString(t), empty, within ? 0 : NONE);
            }
        }
        dueNearest(whole(), v(30, -30, 30, -30), 30, -30, 30, -30);
        dueNearest(whole(), v(-30, 30, -30, 30), -30, 30, -30, 30);
    }

    private static void nearestIsNoneBeyondTheAxes() {
        sentence = "promise 14: NONE when axis is not 0 .. 3";
        int[] far = {-1, -2, -4, 4, 5, 256, 65536, LEAST, LEAST + 1, MOST, MOST - 1};
        for (int rank = 0; rank <= 4; rank++) {
            ShortVectors x = lattice(ofRank(rank));
            for (int axis : far) {
                due("nearest on " + axis, x.nearest(0, 0, 0, 0, axis), NONE);
                due("nearest on " + axis, x.nearest(30, -30, 30, -30, axis), NONE);
                due("nearest on " + axis, x.nearest(31, 0, 0, 0, axis), NONE);
                due("nearest on " + axis, x.nearest(0, 0, 0, LEAST, axis), NONE);
            }
        }
        dueNearest(lattice(v(1, 2, 3, 4)), v(2, 4, 6, 8), 2, 4, 6, 8);
    }

    private static void nearestOfSeveralComesFirst() {
        sentence = "promise 14: of several the one that comes before all others";
        for (int axis = 0; axis < AXES; axis++) {
            int[] g = v(0, 0, 0, 0);
            g[axis] = 2;
            int[] middles = {1, -1, 29, -29};
            for (int middle : middles) {
                int[] t = v(0, 0, 0, 0);
                t[axis] = middle;
                int[] want = v(0, 0, 0, 0);
                want[axis] = middle - 1;
                dueNearest(lattice(g), t, want);
                dueNearest(lattice(diagonal(2, 2, 2, 2)), t, want);
            }
        }
        dueNearest(lattice(diagonal(2, 2, 2, 2)), v(29, -29, 29, -29), 28, -30, 28, -30);
        // As near: 0 and (2, -8, 0, 0), of which 0 begins with less; then 0 and (-2, 8, 0, 0).
        dueNearest(lattice(v(2, -8, 0, 0)), v(1, -4, 5, 0), 0, 0, 0, 0);
        dueNearest(lattice(v(2, -8, 0, 0)), v(-1, 4, 5, 0), -2, 8, 0, 0);
        dueNearest(lattice(v(0, 0, 2, -8)), v(0, 0, -1, 4), 0, 0, -2, 8);
        dueNearest(lattice(greatest()), v(18, 0, 0, 0), 0, 0, 0, 0);
        dueNearest(lattice(greatest()), v(-18, 0, 0, 0), -36, 0, 0, 0);
    }

    private static void nearestMayLieBeyondThePoints() {
        sentence = "promise 14: the vector of the lattice that has this distance";
        dueNearest(lattice(v(0, 0, 0, 8)), v(0, 0, 0, 30), 0, 0, 0, 32);
        dueNearest(lattice(v(0, 0, 0, 8)), v(0, 0, 0, -30), 0, 0, 0, -32);
        dueNearest(lattice(diagonal(7, 8, 8, 7)), v(30, -30, 30, -30), 28, -32, 32, -28);
        dueNearest(lattice(v(9, 9, 9, 9)), v(30, 30, 30, 30), 27, 27, 27, 27);
        // 30 of each are not whole multiples; a long way along the slope is the nearest.
        dueNearest(lattice(v(9, 1, 0, 0)), v(30, 30, 30, 30), 36, 4, 0, 0);
    }

    // ---- a refused call changes nothing

    private static int[][][] states() {
        int[] zero = v(0, 0, 0, 0);
        return new int[][][] {
            {},
            {zero},
            {zero, zero, zero, zero, zero, zero},
            {v(3, 0, 0, -6)},
            {v(2, 0, 0, 0), v(0, 2, 0, 0), v(2, 2, 0, 0)},
            {v(1, -1, 0, 0), v(0, 1, -1, 0), v(0, 0, 1, -1)},
            diagonal(2, 3, 4, 5),
            greatest(),
            {v(9, 8, 7, 6), v(-9, 8, -7, 6), v(5, -4, 3, -2), v(1, 2, 3, 4), v(0, 0, 0, 9)},
            {v(6, 0, 0, 0), v(0, 6, 0, 0), v(0, 0, 6, 0), v(0, 0, 0, 6), v(3, 3, 3, 3), v(2, 2, 2, 2)},
        };
    }

    /** Every way to be refused in a state. */
    private static List<Refused> refusals(int generators, int rank) {
        List<Refused> all = new ArrayList<>();
        for (int sign = -1; sign <= 1; sign += 2) {
            for (int axis = 0; axis < AXES; axis++) {
                addBeyond(all, axis, sign);
            }
        }
        addEnds(all, rank);
        int[] axes = {-1, 4, LEAST, MOST};
        for (int axis : axes) {
            all.add(new Refused("vector(1, " + axis + ")", NONE, x -> x.vector(1, axis)));
            all.add(new Refused("nearest on " + axis, NONE, x -> x.nearest(1, 2, 3, 4, axis)));
        }
        int[] missing = {-1, generators, 6, LEAST, MOST};
        for (int k : missing) {
            all.add(new Refused("spare(" + k + ")", 0, x -> number(x.spare(k))));
        }
        if (generators == 6) {
            all.add(new Refused("add(1, 0, 0, 0)", FULL, x -> x.add(1, 0, 0, 0)));
            all.add(new Refused("add(0, 0, 0, 0)", FULL, x -> x.add(0, 0, 0, 0)));
        }
        if (generators == 0) {
            all.add(new Refused("drop()", 0, x -> number(x.drop())));
        }
        return all;
    }

    private static int[] onesBut(int axis, int coordinate) {
        int[] t = v(1, 1, 1, 1);
        t[axis] = coordinate;
        return t;
    }

    private static void addBeyond(List<Refused> all, int axis, int sign) {
        int end = sign < 0 ? LEAST : MOST;
        for (int far : new int[] {sign * 10, end}) {
            int[] t = onesBut(axis, far);
            all.add(new Refused("add" + Arrays.toString(t), BAD, x -> x.add(t[0], t[1], t[2], t[3])));
        }
        for (int far : new int[] {sign * 1001, end}) {
            int[] t = onesBut(axis, far);
            all.add(new Refused("has" + Arrays.toString(t), 0, x -> number(x.has(t[0], t[1], t[2], t[3]))));
        }
        for (int far : new int[] {sign * 101, end}) {
            int[] t = onesBut(axis, far);
            all.add(new Refused("order" + Arrays.toString(t), BAD, x -> x.order(t[0], t[1], t[2], t[3])));
        }
        for (int far : new int[] {sign * 31, end}) {
            int[] t = onesBut(axis, far);
            all.add(new Refused("distance" + Arrays.toString(t), BAD, x -> x.distance(t[0], t[1], t[2], t[3])));
            all.add(new Refused("nearest" + Arrays.toString(t), NONE, x -> x.nearest(t[0], t[1], t[2], t[3], axis)));
        }
    }

    private static void addEnds(List<Refused> all, int rank) {
        int[] minima = {-1, 0, rank + 1, 5, LEAST, MOST};
        for (int i : minima) {
            all.add(new Refused("minimum(" + i + ")", BAD, x -> x.minimum(i)));
        }
        int[] squares = {-1, 41, LEAST, MOST};
        for (int m : squares) {
            all.add(new Refused("count(" + m + ")", BAD, x -> x.count(m)));
        }
        int[] numbers = {-1, 41, LEAST, MOST};
        for (int k : numbers) {
            all.add(new Refused("vector(" + k + ", 0)", NONE, x -> x.vector(k, 0)));
        }
        if (rank == 0) {
            all.add(new Refused("vector(1, 0)", NONE, x -> x.vector(1, 0)));
            all.add(new Refused("vector(40, 3)", NONE, x -> x.vector(40, 3)));
        }
    }

    /** What an object answers to calls that change nothing; few enough to be asked thrice within 512 calls. */
    private static long[] answers(ShortVectors x) {
        List<Long> all = new ArrayList<>();
        all.add((long) x.generators());
        all.add((long) x.rank());
        all.add(x.volume());
        for (int k = 0; k < 6; k++) {
            all.add(number(x.spare(k)));
        }
        for (int i = 1; i <= 4; i++) {
            all.add((long) x.minimum(i));
        }
        for (int m : new int[] {0, 1, 4, 9, 20, 40}) {
            all.add((long) x.count(m));
        }
        for (int k : new int[] {0, 1, 2, 9, 20, 40}) {
            for (int axis = 0; axis < AXES; axis++) {
                all.add((long) x.vector(k, axis));
            }
        }
        for (int[] t : new int[][] {v(0, 0, 0, 0), v(1, 1, 1, 1), v(6, 0, 0, -12), v(-30, 30, -30, 30)}) {
            all.add(number(x.has(t[0], t[1], t[2], t[3])));
            all.add(x.order(t[0], t[1], t[2], t[3]));
            all.add((long) x.distance(t[0], t[1], t[2], t[3]));
            for (int axis = 0; axis < AXES; axis++) {
                all.add((long) x.nearest(t[0], t[1], t[2], t[3], axis));
            }
        }
        return all.stream().mapToLong(Long::longValue).toArray();
    }

    private static void dueSame(String when, long[] got, long[] want) {
        for (int i = 0; i < want.length; i++) {
            due(when + ", answer " + i, got[i], want[i]);
        }
    }

    private static void refusedCallsChangeNothing() {
        sentence = "terms: a call that is refused changes nothing";
        for (int[][] state : states()) {
            ShortVectors twin = lattice(state);
            long[] want = answers(twin);
            long[] changed = afterAChange(twin);
            for (Refused refused : refusals(state.length, lattice(state).rank())) {
                String when = refused.name() + " on " + Arrays.deepToString(state);
                // Once before the object has worked anything out, once after.
                ShortVectors fresh = lattice(state);
                due(when, refused.call().ask(fresh), refused.due());
                dueSame(when, answers(fresh), want);
                due(when + " again", refused.call().ask(fresh), refused.due());
                dueSame(when + " again", answers(fresh), want);
                dueSame(when + ", then a change", afterAChange(fresh), changed);
            }
        }
    }

    /** The next generator if there is room for one, or else one less. */
    private static long[] afterAChange(ShortVectors x) {
        int generators = x.generators();
        if (generators < 6) {
            due("add", x.add(1, 2, -3, 4), generators);
        } else {
            due("drop", x.drop(), true);
        }
        return answers(x);
    }

    /** Every kind of call is the 512th once. */
    private static void answersHoldUpToTheLastCall() {
        sentence = "an object is used for at most 512 calls";
        Call[] last = {
            x -> x.add(0, 0, 0, 7), x -> number(x.drop()), ShortVectors::generators, ShortVectors::rank,
            ShortVectors::volume, x -> number(x.spare(3)), x -> number(x.has(5, 5, 5, 5)), x -> x.order(5, 5, 5, 1),
            x -> x.minimum(4), x -> x.count(40), x -> x.vector(40, 3), x -> x.distance(30, 30, 30, 30),
            x -> x.nearest(30, 30, 30, 30, 3),
        };
        for (int i = 0; i < last.length; i++) {
            ShortVectors used = lattice(greatest());
            for (int calls = 4; calls < 511; calls++) {
                // A change and a dear call after each other, and no change left over at the end.
                int step = (calls - 4) % 3;
                if (step == 0) {
                    due("call " + calls, used.add(1, 1, 1, 0), 4);
                } else if (step == 1) {
                    due("call " + calls, used.count(40) > 1, true);
                } else {
                    due("call " + calls, used.drop(), true);
                }
            }
            due("call 512 of kind " + i, last[i].ask(used), last[i].ask(lattice(greatest())));
        }
    }
}
