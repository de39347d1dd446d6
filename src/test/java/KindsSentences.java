/** Sentences of 'Terms' about bases, circuits, flats and cocircuits, and their ORDER. */
final class KindsSentences {
    private static final int BASES = 0;
    private static final int CIRCUITS = 1;
    private static final int COCIRCUITS = 2;
    private static final int FLATS = 3;

    private KindsSentences() {
    }

    /** So many columns, all 0, in as many rows. */
    private static BasisWalk zeros(int columns) {
        BasisWalk walk = new BasisWalk();
        walk.begin(0, 0, columns, columns);
        return walk;
    }

    @Says(in = "Terms", words = "A set is INDEPENDENT when its rank is as many as it has;")
    static void emptySetIsIndependent(Check check) {
        Edges.membersAre(check, new BasisWalk(), 0, BASES, 0);
        Edges.membersAre(check, zeros(12), 0, BASES, 0);
        // A column of 0 is a circuit because without it nothing is left.
        Edges.membersAre(check, zeros(1), 0, CIRCUITS, 1);
    }

    @Says(in = "Terms", words = "A set is INDEPENDENT when its rank is as many as it has;")
    static void allTwelveMayBeIndependent(Check check) {
        BasisWalk walk = Check.walkOf(0, Edges.diagonal(12, -999));
        Edges.membersAre(check, walk, 0, BASES, 4095);
        Edges.membersAre(check, walk, 0, CIRCUITS);
        walk.put(0, 11, 11, 0);
        Edges.membersAre(check, walk, 0, BASES, 2047);
        Edges.membersAre(check, walk, 0, CIRCUITS, 2048);
    }

    @Says(in = "Terms", words = "a BASIS is an independent one of R.")
    static void basesHaveRColumns(Check check) {
        // The independent sets 1, 2 and 4 are none, nor is 3, that has R columns.
        BasisWalk walk = Check.walkOf(0, new int[][] {{1, 2, 0}, {0, 0, 1}});
        Edges.membersAre(check, walk, 0, BASES, 5, 6);
        for (int r = 1; r < 12; r++) {
            check.due("bases of " + r + " of 12", Edges.uniform(r).count(0, BASES),
                    new int[] {1, 12, 66, 220, 495, 792, 924, 792, 495, 220, 66, 12}[r]);
        }
    }

    private static final String CIRCUIT = "A CIRCUIT is a set that is not independent, though it is"
            + " with any one column taken away.";

    @Says(in = "Terms", words = CIRCUIT)
    static void circuitsOfOneAndOfTwo(Check check) {
        // Column 1 is 0; 0 and 2 are multiples; what holds column 1 and more is no circuit.
        BasisWalk walk = Check.walkOf(0, new int[][] {{2, 0, -3}, {4, 0, -6}});
        Edges.membersAre(check, walk, 0, CIRCUITS, 2, 5);
        Edges.membersAre(check, zeros(3), 0, CIRCUITS, 1, 2, 4);
    }

    @Says(in = "Terms", words = CIRCUIT)
    static void circuitOfAllTwelve(Check check) {
        BasisWalk walk = Edges.uniform(11);
        Edges.membersAre(check, walk, 0, CIRCUITS, 4095);
        Edges.membersAre(check, Edges.uniform(10), 0, CIRCUITS,
                2047, 3071, 3583, 3839, 3967, 4031, 4063, 4079, 4087, 4091, 4093, 4094);
    }

    @Says(in = "Terms", words = CIRCUIT)
    static void emptySetIsNoCircuit(Check check) {
        Edges.membersAre(check, new BasisWalk(), 0, CIRCUITS);
        Edges.membersAre(check, Check.walkOf(0, new int[][] {{1}}), 0, CIRCUITS);
    }

    private static final String FLAT = "A FLAT is a set to which no other column can be added"
            + " without its rank getting greater.";

    @Says(in = "Terms", words = FLAT)
    static void allColumnsAreAlwaysAFlat(Check check) {
        // There is no other column, so also the empty set of an empty table is one.
        Edges.membersAre(check, new BasisWalk(), 0, FLATS, 0);
        for (int columns = 1; columns <= 12; columns++) {
            Edges.membersAre(check, zeros(columns), 0, FLATS, (1 << columns) - 1);
        }
    }

    @Says(in = "Terms", words = FLAT)
    static void emptySetIsAFlatWithoutColumnsOf0(Check check) {
        BasisWalk walk = Check.walkOf(0, new int[][] {{1, 1}, {1, 1}});
        Edges.membersAre(check, walk, 0, FLATS, 0, 3);
        walk.put(0, 0, 0, 0);
        walk.put(0, 1, 0, 0);
        Edges.membersAre(check, walk, 0, FLATS, 1, 3);
    }

    @Says(in = "Terms", words = FLAT)
    static void everySetMayBeAFlat(Check check) {
        BasisWalk walk = Check.walkOf(0, Edges.diagonal(12, 1));
        check.due("flats", walk.count(0, FLATS), 4096);
        check.due("first flat", walk.member(0, FLATS, 0), 0);
        check.due("last flat", walk.member(0, FLATS, 4095), 4095);
        check.due("none behind", walk.member(0, FLATS, 4096), Edges.NONE);
    }

    private static final String NOT_EMPTY = "A COCIRCUIT is a set that is not empty, of the columns"
            + " in which a row of the SPACE is not 0,";

    @Says(in = "Terms", words = NOT_EMPTY)
    static void emptySetIsNoCocircuit(Check check) {
        Edges.membersAre(check, new BasisWalk(), 0, COCIRCUITS);
        for (int columns = 1; columns <= 12; columns++) {
            Edges.membersAre(check, zeros(columns), 0, COCIRCUITS);
        }
    }

    @Says(in = "Terms", words = NOT_EMPTY)
    static void cocircuitsOfOneAndOfAllTwelve(Check check) {
        Edges.membersAre(check, Edges.uniform(1), 0, COCIRCUITS, 4095);
        Edges.membersAre(check, Check.walkOf(0, Edges.diagonal(12, 1)), 0, COCIRCUITS,
                1, 2, 4, 8, 16, 32, 64, 128, 256, 512, 1024, 2048);
        Edges.membersAre(check, Check.walkOf(0, new int[][] {{0, 7}}), 0, COCIRCUITS, 2);
    }

    private static final String FEWER = "when no other row of the SPACE that is not all 0 has its in"
            + " fewer of them.";

    @Says(in = "Terms", words = FEWER)
    static void otherRowsInTheSameColumnsDoNoHarm(Check check) {
        // Rows 11 and 22 have theirs in the same columns, not in fewer.
        Edges.membersAre(check, Check.walkOf(0, new int[][] {{1, 1}, {2, 2}}), 0, COCIRCUITS, 3);
    }

    @Says(in = "Terms", words = FEWER)
    static void rowsInFewerOfThemDo(Check check) {
        // 111 is a row of the SPACE, but 100 has its in fewer of them, and so has 011.
        BasisWalk walk = Check.walkOf(0, new int[][] {{1, 1, 1}, {1, 0, 0}});
        Edges.membersAre(check, walk, 0, COCIRCUITS, 1, 6);
        // Over 2 the sum of both rows is the only one beside them.
        walk = Check.walkOf(2, new int[][] {{1, 1, 1, 0}, {0, 1, 1, 1}});
        Edges.membersAre(check, walk, 0, COCIRCUITS, 9, 7, 14);
    }

    /** Fewer of them, not fewer: a row in one other column does no harm to one in three. */
    @Says(in = "Terms", words = FEWER)
    static void rowsInFewerOthersDoNoHarm(Check check) {
        BasisWalk walk = Check.walkOf(0, new int[][] {{1, 1, 1, 0}, {0, 0, 0, 1}});
        Edges.membersAre(check, walk, 0, COCIRCUITS, 8, 7);
    }

    private static final String SMALLER_FIRST = "ORDER of sets: the one with fewer columns first;";

    @Says(in = "Terms", words = SMALLER_FIRST)
    static void fewerColumnsFirst(Check check) {
        // As a number 8 is greater than 3, and column 3 comes behind both others.
        BasisWalk walk = Check.walkOf(0, new int[][] {{1, 1, 0, 0}, {0, 0, 1, 0}});
        Edges.membersAre(check, walk, 0, CIRCUITS, 8, 3);
        Edges.membersAre(check, walk, 0, COCIRCUITS, 4, 3);
        Edges.membersAre(check, walk, 0, FLATS, 8, 12, 11, 15);
    }

    private static final String LEAST_COLUMN = "of two with as many, the one that has the least"
            + " column that only one of them has.";

    @Says(in = "Terms", words = LEAST_COLUMN)
    static void leastColumnFirst(Check check) {
        Edges.membersAre(check, Edges.uniform(2), 0, BASES,
                3, 5, 9, 17, 33, 65, 129, 257, 513, 1025, 2049,
                6, 10, 18, 34, 66, 130, 258, 514, 1026, 2050,
                12, 20, 36, 68, 132, 260, 516, 1028, 2052,
                24, 40, 72, 136, 264, 520, 1032, 2056,
                48, 80, 144, 272, 528, 1040, 2064,
                96, 160, 288, 544, 1056, 2080,
                192, 320, 576, 1088, 2112, 384, 640, 1152, 2176,
                768, 1280, 2304, 1536, 2560, 3072);
    }

    /** Sets that have their least columns, or all but one, in common. */
    @Says(in = "Terms", words = LEAST_COLUMN)
    static void columnsThatBothHaveDoNotCount(Check check) {
        BasisWalk walk = Check.walkOf(5, new int[][] {
            {1, 1, 1, 1, 1}, {0, 1, 2, 3, 4}, {0, 1, 4, 4, 1}});
        Edges.membersAre(check, walk, 0, BASES, 7, 11, 19, 13, 21, 25, 14, 22, 26, 28);
        Edges.membersAre(check, walk, 0, CIRCUITS, 15, 23, 27, 29, 30);
    }

    /** Every set once: twelve columns that are all flats, asked in as many objects as needed. */
    @Says(in = "Terms", words = LEAST_COLUMN)
    static void all4096SetsInOrder(Check check) {
        int[][] rows = Edges.diagonal(12, 1);
        BasisWalk walk = Check.walkOf(0, rows);
        int before = 0;
        for (int i = 1; i < 4096; i++) {
            if (i % 300 == 0) {
                walk = Check.walkOf(0, rows);
            }
            int set = walk.member(0, FLATS, i);
            check.due(set + " behind " + before, isBefore(before, set), true);
            before = set;
        }
    }

    private static boolean isBefore(int one, int other) {
        if (Integer.bitCount(one) != Integer.bitCount(other)) {
            return Integer.bitCount(one) < Integer.bitCount(other);
        }
        int differing = one ^ other;
        return (one & Integer.lowestOneBit(differing)) != 0;
    }
}
