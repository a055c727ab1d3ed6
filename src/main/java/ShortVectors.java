import java.util.Arrays;

/** Lattices in four dimensions, told by at most six generators that may depend on one another. */
public final class ShortVectors {
    public static final int BAD = -1;
    public static final int FULL = -2;
    public static final int NONE = 1000;

    private static final int AXES = 4;
    private static final int MOST_GENERATORS = 6;
    private static final int GENERATOR_REACH = 9;
    private static final int HAS_REACH = 1000;
    private static final int ORDER_REACH = 100;
    private static final int POINT_REACH = 30;
    private static final int GREATEST_COUNTED = 40;
    private static final int LISTED = 41;
    /** Far above the rounds that any loop of this class can need. */
    private static final int MANY = 1_000_000;

    private final long[][] added = new long[MOST_GENERATORS][AXES];
    private final long[] asked = new long[AXES];
    private final Echelon echelon = new Echelon();
    private final Echelon others = new Echelon();
    private final Basis basis = new Basis();
    private final Tally tally = new Tally();
    private final FirstVectors first = new FirstVectors();
    private final Closest closest = new Closest();
    private int held;
    private boolean reduced;
    private boolean tallied;
    private boolean listed;

    public ShortVectors() {
        held = 0;
    }

    public int add(int a, int b, int c, int d) {
        if (!ask(a, b, c, d, GENERATOR_REACH)) {
            return BAD;
        }
        if (held >= MOST_GENERATORS) {
            return FULL;
        }
        copy(asked, added[held]);
        held++;
        echelon.include(asked);
        forget();
        return held - 1;
    }

    public boolean drop() {
        if (held == 0) {
            return false;
        }
        held--;
        gather(echelon, MOST_GENERATORS);
        forget();
        return true;
    }

    public int generators() {
        return held;
    }

    public int rank() {
        return echelon.size();
    }

    public long volume() {
        return readyBasis().volumeSquared();
    }

    public boolean spare(int k) {
        if (k < 0 || k >= held) {
            return false;
        }
        gather(others, k);
        return others.holds(added[k]);
    }

    public boolean has(int a, int b, int c, int d) {
        return ask(a, b, c, d, HAS_REACH) && echelon.holds(asked);
    }

    public long order(int a, int b, int c, int d) {
        return ask(a, b, c, d, ORDER_REACH) ? echelon.leastMultiplier(asked) : BAD;
    }

    public int minimum(int i) {
        if (i < 1 || i > echelon.size()) {
            return BAD;
        }
        return (int) readyBasis().squareOf(i - 1);
    }

    public int count(int m) {
        if (m < 0 || m > GREATEST_COUNTED) {
            return BAD;
        }
        if (!tallied) {
            tally.fill(readyBasis());
            tallied = true;
        }
        return tally.upTo(m);
    }

    public int vector(int k, int axis) {
        if (!isAxis(axis) || k < 0 || k >= LISTED) {
            return NONE;
        }
        if (!listed) {
            first.fill(readyBasis());
            listed = true;
        }
        return first.coordinate(k, axis);
    }

    public int distance(int a, int b, int c, int d) {
        if (!ask(a, b, c, d, POINT_REACH)) {
            return BAD;
        }
        closest.approach(readyBasis(), asked);
        return closest.leastSquare();
    }

    public int nearest(int a, int b, int c, int d, int axis) {
        if (!isAxis(axis) || !ask(a, b, c, d, POINT_REACH)) {
            return NONE;
        }
        closest.approach(readyBasis(), asked);
        return closest.coordinate(axis);
    }

    /** Takes the coordinates as the vector that is asked about, if all of them are within the reach. */
    private boolean ask(int a, int b, int c, int d, int reach) {
        asked[0] = a;
        asked[1] = b;
        asked[2] = c;
        asked[3] = d;
        for (int axis = 0; axis < AXES; axis++) {
            if (asked[axis] < -reach || asked[axis] > reach) {
                return false;
            }
        }
        return true;
    }

    private void gather(Echelon into, int leftOut) {
        into.clear();
        for (int k = 0; k < held; k++) {
            if (k != leftOut) {
                into.include(added[k]);
            }
        }
    }

    private void forget() {
        reduced = false;
        tallied = false;
        listed = false;
    }

    private Basis readyBasis() {
        if (!reduced) {
            basis.take(echelon);
            reduced = true;
        }
        return basis;
    }

    private static boolean isAxis(int axis) {
        return axis >= 0 && axis < AXES;
    }

    private static void copy(long[] from, long[] to) {
        System.arraycopy(from, 0, to, 0, AXES);
    }

    private static void addMultiple(long[] to, long[] of, long factor) {
        for (int axis = 0; axis < AXES; axis++) {
            to[axis] += factor * of[axis];
        }
    }

    private static long product(long[] one, long[] other) {
        long sum = 0;
        for (int axis = 0; axis < AXES; axis++) {
            sum += one[axis] * other[axis];
        }
        return sum;
    }

    private static boolean comesBefore(long[] one, long[] other) {
        for (int axis = 0; axis < AXES; axis++) {
            if (one[axis] != other[axis]) {
                return one[axis] < other[axis];
            }
        }
        return false;
    }

    private static long commonDivisor(long one, long other) {
        long a = Math.abs(one);
        long b = Math.abs(other);
        for (int step = 0; step < MANY && b != 0; step++) {
            long left = a % b;
            a = b;
            b = left;
        }
        return a;
    }

    /** The whole number nearest to a quotient with a divisor above 0; the greater one of two. */
    private static long nearestQuotient(long dividend, long divisor) {
        return divisor <= 0 ? 0 : Math.floorDiv(2 * dividend + divisor, 2 * divisor);
    }

    /** A lattice as a staircase of rows: row k is 0 on the axes before k and above 0 on axis k, or it is all 0. */
    private static final class Echelon {
        private final long[][] rows = new long[AXES][AXES];
        private final long[] rest = new long[AXES];

        void clear() {
            for (int k = 0; k < AXES; k++) {
                Arrays.fill(rows[k], 0);
            }
        }

        int size() {
            int sum = 0;
            for (int k = 0; k < AXES; k++) {
                sum += isHeld(k) ? 1 : 0;
            }
            return sum;
        }

        boolean isHeld(int k) {
            return rows[k][k] != 0;
        }

        long[] row(int k) {
            return rows[k];
        }

        void include(long[] generator) {
            copy(generator, rest);
            for (int k = 0; k < AXES; k++) {
                merge(rows[k], k);
            }
            // From the last row up, so that only short rows are subtracted and no number outgrows a long.
            for (int k = AXES - 1; k >= 0; k--) {
                shorten(k);
            }
        }

        /** Euclid's algorithm on one axis; the row keeps the common divisor and the rest is 0 there. */
        private void merge(long[] row, int k) {
            for (int step = 0; step < MANY && rest[k] != 0; step++) {
                long quotient = row[k] / rest[k];
                for (int axis = k; axis < AXES; axis++) {
                    long left = row[axis] - quotient * rest[axis];
                    row[axis] = rest[axis];
                    rest[axis] = left;
                }
            }
            if (row[k] < 0) {
                addMultiple(row, row, -2);
            }
        }

        private void shorten(int k) {
            for (int later = k + 1; later < AXES; later++) {
                if (isHeld(later)) {
                    addMultiple(rows[k], rows[later], -Math.floorDiv(rows[k][later], rows[later][later]));
                }
            }
        }

        boolean holds(long[] vector) {
            return leastMultiplier(vector) == 1;
        }

        /** The least n above 0 for which n times the vector is in the lattice, or 0. */
        long leastMultiplier(long[] vector) {
            copy(vector, rest);
            long multiplier = 1;
            for (int k = 0; k < AXES; k++) {
                if (rest[k] == 0) {
                    continue;
                }
                if (!isHeld(k)) {
                    return 0;
                }
                long step = rows[k][k];
                long factor = step / commonDivisor(step, rest[k]);
                multiplier *= factor;
                addMultiple(rest, rest, factor - 1);
                addMultiple(rest, rows[k], -(rest[k] / step));
            }
            return multiplier;
        }
    }

    /** What a search through a lattice hands its vectors to. */
    private abstract static class Collector {
        /** The point from which squares are measured: 0 where a collector does not move it. */
        private final long[] goal = new long[AXES];
        /** The greatest square that still matters; it may fall during a search. */
        private long budget;

        long[] goal() {
            return goal;
        }

        void setBudget(long greatest) {
            budget = greatest;
        }

        boolean wants(long square) {
            return square <= budget;
        }

        /** Meets a vector of the lattice less the goal; the array is the search's own. */
        abstract void meet(long[] offset, long square);
    }

    /** How many vectors of the lattice have which square. */
    private static final class Tally extends Collector {
        private final int[] sums = new int[GREATEST_COUNTED + 1];

        void fill(Basis basis) {
            Arrays.fill(sums, 0);
            setBudget(GREATEST_COUNTED);
            basis.search(this);
            for (int m = 1; m <= GREATEST_COUNTED; m++) {
                sums[m] += sums[m - 1];
            }
        }

        int upTo(int m) {
            return sums[m];
        }

        void meet(long[] offset, long square) {
            if (wants(square)) {
                sums[(int) square]++;
            }
        }
    }

    /** The first vectors of the lattice in their order. */
    private static final class FirstVectors extends Collector {
        private final long[][] vectors = new long[LISTED][AXES];
        private final long[] squares = new long[LISTED];
        private int listLength;

        void fill(Basis basis) {
            listLength = 0;
            // The shortest vector's own multiples fill the list within this square.
            long longest = LISTED / 2;
            setBudget(longest * longest * basis.leastSquare());
            basis.search(this);
        }

        int coordinate(int k, int axis) {
            return k < listLength ? (int) vectors[k][axis] : NONE;
        }

        void meet(long[] offset, long square) {
            if (!wants(square)) {
                return;
            }
            int place = listLength;
            while (place > 0 && precedes(offset, square, place - 1)) {
                place--;
            }
            if (place < LISTED) {
                insert(offset, square, place);
            }
            if (listLength == LISTED) {
                setBudget(squares[LISTED - 1]);
            }
        }

        private boolean precedes(long[] offset, long square, int k) {
            return square < squares[k] || square == squares[k] && comesBefore(offset, vectors[k]);
        }

        private void insert(long[] offset, long square, int place) {
            listLength = Math.min(listLength + 1, LISTED);
            for (int k = listLength - 1; k > place; k--) {
                copy(vectors[k - 1], vectors[k]);
                squares[k] = squares[k - 1];
            }
            copy(offset, vectors[place]);
            squares[place] = square;
        }
    }

    /** The vector of the lattice that is nearest to a point. */
    private static final class Closest extends Collector {
        private final long[] best = new long[AXES];
        private long bestSquare;

        void approach(Basis basis, long[] point) {
            copy(point, goal());
            // The vector 0 is in every lattice: the search begins with it as the best so far.
            Arrays.fill(best, 0);
            addMultiple(best, point, -1);
            bestSquare = product(best, best);
            setBudget(bestSquare);
            basis.search(this);
        }

        int leastSquare() {
            return (int) bestSquare;
        }

        int coordinate(int axis) {
            return (int) (goal()[axis] + best[axis]);
        }

        void meet(long[] offset, long square) {
            if (square < bestSquare || square == bestSquare && comesBefore(offset, best)) {
                copy(offset, best);
                bestSquare = square;
                setBudget(square);
            }
        }
    }

    /**
     * A basis reduced after Minkowski, the shortest row first: up to four dimensions the squares of its rows are the
     * minima. So they are at most 324, the greatest square of a generator, and no product below outgrows a long.
     */
    private static final class Basis {
        private static final int GREATEST_FACTOR = 2;
        private static final int FACTORS = 2 * GREATEST_FACTOR + 1;

        private final long[][] rows = new long[AXES][AXES];
        /** Direction k is at a right angle to all rows before row k, and a sum of multiples of rows 0 .. k. */
        private final long[][] directions = new long[AXES][AXES];
        private final long[] directionSquares = new long[AXES];
        /** How far one step along row k goes, measured along direction k. */
        private final long[] strides = new long[AXES];
        /** Sum k of a search: the multiples of row k and of those behind it, less the goal. */
        private final long[][] sums = new long[AXES + 1][AXES];
        private final long[][] minors = new long[AXES][AXES];
        private final long[] trial = new long[AXES];
        private int size;

        void take(Echelon echelon) {
            size = 0;
            for (int k = 0; k < AXES; k++) {
                if (echelon.isHeld(k)) {
                    copy(echelon.row(k), rows[size]);
                    size++;
                }
            }
            reduce();
            sort();
            for (int k = 0; k < size; k++) {
                direct(k);
            }
        }

        long squareOf(int k) {
            return product(rows[k], rows[k]);
        }

        /** The first minimum, or 0 for the rank 0. */
        long leastSquare() {
            return size == 0 ? 0 : squareOf(0);
        }

        private void reduce() {
            boolean shorter = true;
            for (int round = 0; round < MANY && shorter; round++) {
                // Pairs alone do not reach a reduced basis, but they take the long steps that sums would take singly.
                shorter = shortenByPairs() || shortenBySums();
            }
        }

        private boolean shortenByPairs() {
            boolean shorter = false;
            for (int k = 0; k < size; k++) {
                for (int other = 0; other < size; other++) {
                    if (other != k && shortenBy(k, other)) {
                        shorter = true;
                    }
                }
            }
            return shorter;
        }

        private boolean shortenBy(int k, int other) {
            long shared = product(rows[k], rows[other]);
            long square = product(rows[other], rows[other]);
            if (2 * Math.abs(shared) <= square) {
                return false;
            }
            addMultiple(rows[k], rows[other], -nearestQuotient(shared, square));
            return true;
        }

        /** Minkowski's conditions in four dimensions need no factors beyond 2. */
        private boolean shortenBySums() {
            boolean shorter = false;
            int choices = 1;
            for (int k = 1; k < size; k++) {
                choices *= FACTORS;
            }
            for (int k = 0; k < size; k++) {
                for (int choice = 0; choice < choices; choice++) {
                    if (shortenByChoice(k, choice)) {
                        shorter = true;
                    }
                }
            }
            return shorter;
        }

        /** The choice's digits are the factors of the other rows. */
        private boolean shortenByChoice(int k, int choice) {
            copy(rows[k], trial);
            int digits = choice;
            for (int other = 0; other < size; other++) {
                if (other != k) {
                    addMultiple(trial, rows[other], digits % FACTORS - GREATEST_FACTOR);
                    digits /= FACTORS;
                }
            }
            if (product(trial, trial) >= product(rows[k], rows[k])) {
                return false;
            }
            copy(trial, rows[k]);
            return true;
        }

        private void sort() {
            for (int end = size - 1; end > 0; end--) {
                for (int k = 0; k < end; k++) {
                    if (squareOf(k + 1) < squareOf(k)) {
                        copy(rows[k], trial);
                        copy(rows[k + 1], rows[k]);
                        copy(trial, rows[k + 1]);
                    }
                }
            }
        }

        private void direct(int k) {
            long[] direction = directions[k];
            copy(rows[k], direction);
            for (int before = 0; before < k; before++) {
                turnAway(direction, directions[before], directionSquares[before]);
            }
            directionSquares[k] = Math.max(1, product(direction, direction));
            strides[k] = Math.max(1, product(direction, rows[k]));
        }

        private static void turnAway(long[] direction, long[] from, long fromSquare) {
            long shared = product(direction, from);
            long divisor = Math.max(1, commonDivisor(shared, fromSquare));
            addMultiple(direction, direction, fromSquare / divisor - 1);
            addMultiple(direction, from, -(shared / divisor));
            long content = 0;
            for (int axis = 0; axis < AXES; axis++) {
                content = commonDivisor(content, direction[axis]);
            }
            for (int axis = 0; axis < AXES && content > 1; axis++) {
                direction[axis] /= content;
            }
        }

        /** The determinant of the products of the rows, by Bareiss's elimination, whose divisions leave no rest. */
        long volumeSquared() {
            for (int k = 0; k < size; k++) {
                for (int other = 0; other < size; other++) {
                    minors[k][other] = product(rows[k], rows[other]);
                }
            }
            long before = 1;
            for (int step = 0; step < size && before != 0; step++) {
                eliminate(step, before);
                before = minors[step][step];
            }
            return before;
        }

        private void eliminate(int step, long before) {
            if (before == 0) {
                return;
            }
            for (int k = step + 1; k < size; k++) {
                for (int other = step + 1; other < size; other++) {
                    long cross = minors[k][step] * minors[step][other];
                    minors[k][other] = (minors[k][other] * minors[step][step] - cross) / before;
                }
            }
        }

        /** Hands the collector every vector of the lattice that is near enough to its goal, and perhaps some others. */
        void search(Collector collector) {
            Arrays.fill(sums[size], 0);
            addMultiple(sums[size], collector.goal(), -1);
            descend(size, squareOutside(collector.goal()), collector);
        }

        /** A lower bound of the square of the part of a point that is at a right angle to the lattice. */
        private long squareOutside(long[] point) {
            long left = product(point, point);
            for (int k = 0; k < size; k++) {
                long along = product(directions[k], point);
                // Rounded up, so that what is left is never too much.
                left += Math.floorDiv(-along * along, directionSquares[k]);
            }
            return Math.max(0, left);
        }

        /** Chooses multiples of the rows before a level; what is spent bounds the cost of the other rows from below. */
        private void descend(int level, long spent, Collector collector) {
            if (level <= 0) {
                collector.meet(sums[0], product(sums[0], sums[0]));
                return;
            }
            int k = level - 1;
            long start = -nearestQuotient(product(directions[k], sums[level]), strides[k]);
            walk(k, start, 1, spent, collector);
            walk(k, start - 1, -1, spent, collector);
        }

        /** Goes away from the cheapest multiple of row k, until all further ones cost too much. */
        private void walk(int k, long start, int way, long spent, Collector collector) {
            copy(sums[k + 1], sums[k]);
            addMultiple(sums[k], rows[k], start);
            for (int step = 0; step < MANY; step++) {
                long along = product(directions[k], sums[k]);
                long cost = spent + along * along / directionSquares[k];
                if (!collector.wants(cost)) {
                    return;
                }
                descend(k, cost, collector);
                addMultiple(sums[k], rows[k], way);
            }
        }
    }
}
