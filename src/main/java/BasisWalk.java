import java.util.Arrays;

/**
 * Four tables of numbers over the rationals or a prime field, and what is told by which of their
 * columns depend on one another. Sets of columns are sums of 2^e for columns e.
 *
 * <p>All arrays are made with the object, long enough for twelve columns, and used again by every
 * call: what calls make is counted, and so they make nothing.
 */
public final class BasisWalk {
    public static final int NONE = -1;

    private static final int TABLES = 4;
    private static final int MOST_LINES = 12;
    private static final int SIZES = MOST_LINES + 1;
    private static final int MOST_SETS = 1 << MOST_LINES;
    /** Of twelve columns six. */
    private static final int MOST_SETS_OF_ONE_SIZE = 924;
    private static final int MOST_NUMBER = 999;
    private static final int MOST_PRIME = 251;
    private static final int NO_SIGN = 2;

    private static final int BASES = 0;
    private static final int CIRCUITS = 1;
    private static final int COCIRCUITS = 2;
    private static final int FLATS = 3;
    private static final int KINDS = 4;

    private final Table[] tables;
    private final Order order;
    private final Minors minors;

    public BasisWalk() {
        tables = new Table[TABLES];
        for (int t = 0; t < TABLES; t++) {
            tables[t] = new Table();
        }
        order = new Order();
        minors = new Minors();
    }

    public boolean begin(int t, int field, int rows, int columns) {
        Table table = tableAt(t);
        if (table == null || !isField(field) || !isLineCount(rows) || !isLineCount(columns)) {
            return false;
        }
        table.clear(field, rows, columns);
        return true;
    }

    public boolean put(int t, int row, int column, int v) {
        Table table = tableAt(t);
        if (table == null || !table.hasPlace(row, column) || v < -MOST_NUMBER || v > MOST_NUMBER) {
            return false;
        }
        table.write(row, column, v);
        return true;
    }

    public int columns(int t) {
        Table table = tableAt(t);
        return table == null ? NONE : table.columnCount;
    }

    public int rank(int t, int set) {
        Table table = tableAt(t);
        if (table == null || !table.hasSet(set)) {
            return NONE;
        }
        return studyOf(table).ranks[set];
    }

    public int count(int t, int kind) {
        Table table = tableAt(t);
        if (table == null || !isKind(kind)) {
            return NONE;
        }
        return studyOf(table).howMany(kind);
    }

    public int member(int t, int kind, int i) {
        Table table = tableAt(t);
        if (table == null || !isKind(kind)) {
            return NONE;
        }
        return studyOf(table).memberAt(kind, i);
    }

    public long tutte(int t, int i, int j) {
        Table table = tableAt(t);
        if (table == null || i < 0 || i >= SIZES || j < 0 || j >= SIZES) {
            return 0;
        }
        return studyOf(table).coefficient(i, j);
    }

    public int sign(int t, int set) {
        Table table = tableAt(t);
        if (table == null || table.field != 0 || !table.hasSet(set)) {
            return NO_SIGN;
        }
        Study study = studyOf(table);
        return Integer.bitCount(set) == study.fullRank ? study.signs[set] : NO_SIGN;
    }

    public int below(int t, int i) {
        Table table = tableAt(t);
        if (table == null || table.field != 0) {
            return NONE;
        }
        Study study = studyOf(table);
        int circuit = study.memberAt(CIRCUITS, i);
        return circuit == NONE ? NONE : study.negativePart(circuit);
    }

    private Table tableAt(int t) {
        return t < 0 || t >= TABLES ? null : tables[t];
    }

    /** What is known of a table, found anew only after its numbers have changed. */
    private Study studyOf(Table table) {
        if (!table.studied) {
            order.fit(table.columnCount);
            table.study.learn(table, order, minors);
            table.studied = true;
        }
        return table.study;
    }

    private static boolean isLineCount(int lines) {
        return lines >= 0 && lines <= MOST_LINES;
    }

    private static boolean isKind(int kind) {
        return kind >= 0 && kind < KINDS;
    }

    private static boolean isField(int field) {
        if (field == 0) {
            return true;
        }
        if (field < 2 || field > MOST_PRIME) {
            return false;
        }
        for (int d = 2; d * d <= field; d++) {
            if (field % d == 0) {
                return false;
            }
        }
        return true;
    }

    private static int choose(int n, int k) {
        int ways = 1;
        for (int d = 1; d <= k; d++) {
            ways = ways * (n - k + d) / d;
        }
        return ways;
    }

    /** The numbers of one table; in a prime field they are residues, never below 0. */
    private static final class Table {
        private int field;
        private int rowCount;
        private int columnCount;
        private final int[] numbers;
        private boolean studied;
        private final Study study;

        Table() {
            numbers = new int[MOST_LINES * MOST_LINES];
            study = new Study();
        }

        void clear(int newField, int newRowCount, int newColumnCount) {
            field = newField;
            rowCount = newRowCount;
            columnCount = newColumnCount;
            Arrays.fill(numbers, 0);
            studied = false;
        }

        boolean hasPlace(int row, int column) {
            return row >= 0 && row < rowCount && column >= 0 && column < columnCount;
        }

        boolean hasSet(int set) {
            return set >= 0 && set < (1 << columnCount);
        }

        void write(int row, int column, int v) {
            numbers[row * MOST_LINES + column] = field == 0 ? v : Math.floorMod(v, field);
            studied = false;
        }
    }

    /** All sets of so many columns in ORDER; those of one size stand together. */
    private static final class Order {
        private int columnCount;
        private final int[] sets;
        private final int[] starts;
        private final int[] nexts;

        Order() {
            sets = new int[MOST_SETS];
            starts = new int[SIZES + 1];
            starts[1] = 1;
            nexts = new int[SIZES];
        }

        void fit(int newColumnCount) {
            if (newColumnCount == columnCount) {
                return;
            }
            columnCount = newColumnCount;
            int all = 1 << columnCount;
            for (int size = 0; size <= columnCount; size++) {
                nexts[size] = starts[size];
                starts[size + 1] = starts[size] + choose(columnCount, size);
            }
            int set = all - 1;
            for (int step = 0; step < all; step++) {
                int size = Integer.bitCount(set);
                sets[nexts[size]] = set;
                nexts[size]++;
                set = oneLess(set);
            }
        }

        /**
         * The set counted down by one, its least column being the highest digit: in that count
         * the sets of one size come by in ORDER.
         */
        private int oneLess(int set) {
            int lower = set;
            for (int e = columnCount - 1; e >= 0; e--) {
                lower ^= 1 << e;
                if ((set & (1 << e)) != 0) {
                    return lower;
                }
            }
            return lower;
        }
    }

    /**
     * The determinants, but for one common sign, of the rows taken so far in every set of as many
     * columns. Over the rationals they reach 2^142 (Hadamard), so each is kept exactly in three
     * digits of 48 bits, the high one with the sign: twelve products of a digit with a number up
     * to 999 still fit a long. Nothing is ever divided.
     */
    private static final class Minors {
        private static final int DIGIT_BITS = 48;
        private static final long DIGIT_MASK = (1L << DIGIT_BITS) - 1;

        private final long[] low;
        private final long[] middle;
        private final long[] high;

        Minors() {
            low = new long[MOST_SETS];
            middle = new long[MOST_SETS];
            high = new long[MOST_SETS];
        }

        /** No row taken: the determinant of nothing is 1. */
        void restart() {
            low[0] = 1;
            middle[0] = 0;
            high[0] = 0;
        }

        /** Expands all sets of a size by one more row; answers whether the row is independent. */
        boolean takeRow(Table table, int row, Order order, int size) {
            boolean independent = false;
            for (int at = order.starts[size]; at < order.starts[size + 1]; at++) {
                int set = order.sets[at];
                expand(table, row * MOST_LINES, set);
                if (signOf(set) != 0) {
                    independent = true;
                }
            }
            return independent;
        }

        int signOf(int set) {
            if (high[set] < 0) {
                return -1;
            }
            return (low[set] | middle[set] | high[set]) == 0 ? 0 : 1;
        }

        private void expand(Table table, int place, int set) {
            long a = 0;
            long b = 0;
            long c = 0;
            int turn = 1;
            for (int e = 0; e < table.columnCount; e++) {
                int rest = set & ~(1 << e);
                if (rest != set) {
                    long number = turn * table.numbers[place + e];
                    a += number * low[rest];
                    b += number * middle[rest];
                    c += number * high[rest];
                    turn = -turn;
                }
            }
            if (table.field != 0) {
                low[set] = Math.floorMod(a, (long) table.field);
                middle[set] = 0;
                high[set] = 0;
                return;
            }
            b += a >> DIGIT_BITS;
            c += b >> DIGIT_BITS;
            low[set] = a & DIGIT_MASK;
            middle[set] = b & DIGIT_MASK;
            high[set] = c;
        }
    }

    /** What the columns of one table tell, for all its sets at once. */
    private static final class Study {
        private int columnCount;
        private int fullRank;
        private final int[] ranks;
        private final int[] signs;
        private final int[] members;
        private final int[] starts;
        private final int[] defects;

        Study() {
            ranks = new int[MOST_SETS];
            signs = new int[MOST_SETS];
            // Bases, circuits and cocircuits lie never one inside another of their kind, so
            // (Sperner) there are no more of each than of the sets of the middle size.
            members = new int[MOST_SETS + 3 * MOST_SETS_OF_ONE_SIZE];
            starts = new int[KINDS + 1];
            defects = new int[SIZES * SIZES];
        }

        void learn(Table table, Order order, Minors minors) {
            columnCount = table.columnCount;
            fullRank = takeRows(table, order, minors);
            learnSigns(order, minors);
            markIndependent();
            learnRanks();
            learnDefects();
            learnMembers(order);
        }

        int howMany(int kind) {
            return starts[kind + 1] - starts[kind];
        }

        int memberAt(int kind, int i) {
            return i < 0 || i >= howMany(kind) ? NONE : members[starts[kind] + i];
        }

        /** By the binomial theorem, from how many sets lack so much rank and have so much over. */
        long coefficient(int i, int j) {
            long sum = 0;
            for (int a = i; a <= fullRank; a++) {
                for (int b = j; b <= columnCount - fullRank; b++) {
                    long term = (long) choose(a, i) * choose(b, j) * defects[a * SIZES + b];
                    sum += (a - i + b - j) % 2 == 0 ? term : -term;
                }
            }
            return sum;
        }

        /**
         * By Cramer's rule in the circuit widened to full rank: the number of a column is, but for
         * its turn, the determinant of all the others.
         */
        int negativePart(int circuit) {
            int wide = widened(circuit);
            int negative = 0;
            int first = 0;
            int turn = 1;
            for (int e = 0; e < columnCount; e++) {
                int bit = 1 << e;
                if ((circuit & bit) != 0) {
                    int sign = turn * signs[wide ^ bit];
                    first = first == 0 ? sign : first;
                    negative |= sign == first ? 0 : bit;
                }
                turn = (wide & bit) != 0 ? -turn : turn;
            }
            return negative;
        }

        private int widened(int set) {
            int wide = set;
            for (int e = 0; e < columnCount; e++) {
                if (ranks[wide | (1 << e)] > ranks[wide]) {
                    wide |= 1 << e;
                }
            }
            return wide;
        }

        private int takeRows(Table table, Order order, Minors minors) {
            minors.restart();
            int taken = 0;
            for (int row = 0; row < table.rowCount && taken < columnCount; row++) {
                if (minors.takeRow(table, row, order, taken + 1)) {
                    taken++;
                }
            }
            return taken;
        }

        private void learnSigns(Order order, Minors minors) {
            int first = 0;
            for (int at = order.starts[fullRank]; at < order.starts[fullRank + 1]; at++) {
                int set = order.sets[at];
                int sign = minors.signOf(set);
                first = first == 0 ? sign : first;
                signs[set] = sign * first;
            }
        }

        /** An independent set has its size as its rank already; any other waits with NONE. */
        private void markIndependent() {
            for (int set = (1 << columnCount) - 1; set >= 0; set--) {
                int size = Integer.bitCount(set);
                boolean independent = size == fullRank ? signs[set] != 0
                        : size < fullRank && hasIndependentAbove(set);
                ranks[set] = independent ? size : NONE;
            }
        }

        private boolean hasIndependentAbove(int set) {
            for (int e = 0; e < columnCount; e++) {
                int above = set | (1 << e);
                if (above != set && ranks[above] != NONE) {
                    return true;
                }
            }
            return false;
        }

        private void learnRanks() {
            for (int set = 1; set < (1 << columnCount); set++) {
                if (ranks[set] == NONE) {
                    ranks[set] = greatestRankUnder(set);
                }
            }
        }

        private int greatestRankUnder(int set) {
            int greatest = 0;
            for (int e = 0; e < columnCount; e++) {
                int under = set & ~(1 << e);
                if (under != set && ranks[under] > greatest) {
                    greatest = ranks[under];
                }
            }
            return greatest;
        }

        private void learnDefects() {
            Arrays.fill(defects, 0);
            for (int set = 0; set < (1 << columnCount); set++) {
                int lacking = fullRank - ranks[set];
                int over = Integer.bitCount(set) - ranks[set];
                defects[lacking * SIZES + over]++;
            }
        }

        private void learnMembers(Order order) {
            int next = 0;
            for (int kind = 0; kind < KINDS; kind++) {
                starts[kind] = next;
                for (int at = 0; at < (1 << columnCount); at++) {
                    int set = order.sets[at];
                    if (isOfKind(kind, set)) {
                        members[next] = set;
                        next++;
                    }
                }
            }
            starts[KINDS] = next;
        }

        private boolean isOfKind(int kind, int set) {
            switch (kind) {
                case BASES:
                    return ranks[set] == fullRank && Integer.bitCount(set) == fullRank;
                case CIRCUITS:
                    return isCircuit(set);
                case COCIRCUITS:
                    return isHyperplane((1 << columnCount) - 1 - set);
                case FLATS:
                    return isFlat(set);
                default:
                    return false;
            }
        }

        private boolean isCircuit(int set) {
            int size = Integer.bitCount(set);
            if (ranks[set] != size - 1) {
                return false;
            }
            for (int e = 0; e < columnCount; e++) {
                int under = set & ~(1 << e);
                if (under != set && ranks[under] != size - 1) {
                    return false;
                }
            }
            return true;
        }

        /**
         * The columns in which a row of the space is 0 are a flat; when it lacks just one of the
         * full rank, the others are a cocircuit.
         */
        private boolean isHyperplane(int set) {
            return ranks[set] == fullRank - 1 && isFlat(set);
        }

        private boolean isFlat(int set) {
            for (int e = 0; e < columnCount; e++) {
                int above = set | (1 << e);
                if (above != set && ranks[above] == ranks[set]) {
                    return false;
                }
            }
            return true;
        }
    }
}
