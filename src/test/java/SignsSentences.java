/** Sentences of 'Terms' about signs. */
final class SignsSentences {
    private SignsSentences() {
    }

    private static void signsAre(Check check, BasisWalk walk, int[] sets, int... due) {
        for (int k = 0; k < sets.length; k++) {
            check.due("sign of " + sets[k], walk.sign(0, sets[k]), due[k]);
        }
    }

    @Says(in = "Terms", words = "Over the rationals only:")
    static void signsOverTheRationalsOnly(Check check) {
        BasisWalk walk = new BasisWalk();
        for (int prime : Edges.PRIMES) {
            walk.begin(0, prime, 1, 2);
            walk.put(0, 0, 0, 1);
            walk.put(0, 0, 1, 1);
            check.due("sign over " + prime, walk.sign(0, 1), 2);
            check.due("below over " + prime, walk.below(0, 0), Edges.NONE);
        }
        walk.begin(0, 0, 1, 2);
        walk.put(0, 0, 0, 1);
        walk.put(0, 0, 1, 1);
        check.due("sign over the rationals", walk.sign(0, 1), 1);
        check.due("below over the rationals", walk.below(0, 0), 2);
    }

    private static final String SIGN = "THE SIGN of a set of R: for some R rows from which all of the"
            + " SPACE come, the sign of the determinant of what they have in its columns,";

    @Says(in = "Terms", words = SIGN)
    static void signOfDeterminants(Check check) {
        BasisWalk walk = Check.walkOf(0, new int[][] {{1, 0, 2, 3}, {0, 1, -1, 4}});
        signsAre(check, walk, new int[] {3, 5, 9, 6, 10, 12}, 1, -1, 1, -1, -1, 1);
        walk = Check.walkOf(0, new int[][] {{0, 1, 0, 1}, {0, 0, 1, 1}, {1, 0, 0, 1}});
        signsAre(check, walk, new int[] {7, 11, 13, 14}, 1, 1, -1, 1);
    }

    /** The first rows are 0, or come of one another, so that the SPACE does not come of them. */
    @Says(in = "Terms", words = SIGN)
    static void rowsToSpare(Check check) {
        int[][] rows = new int[12][3];
        rows[9] = new int[] {1, 2, -1};
        rows[10] = new int[] {-2, -4, 2};
        rows[11] = new int[] {0, 1, 1};
        signsAre(check, Check.walkOf(0, rows), new int[] {3, 5, 6, 7}, 1, 1, 1, 2);
        rows[11][2] = -1;
        signsAre(check, Check.walkOf(0, rows), new int[] {3, 5, 6, 7}, 1, -1, -1, 2);
    }

    /** Whichever R rows they are. */
    @Says(in = "Terms", words = SIGN)
    static void rowsInAnyOrder(Check check) {
        int[][] rows = {{1, 0, 2, 3}, {0, 1, -1, 4}, {1, 1, 1, 7}};
        for (int first = 0; first < 3; first++) {
            int[][] turned = {rows[first], rows[(first + 1) % 3], rows[(first + 2) % 3]};
            int[][] back = {turned[2], turned[1], turned[0]};
            int[] sets = {3, 5, 9, 6, 10, 12};
            signsAre(check, Check.walkOf(0, turned), sets, 1, -1, 1, -1, -1, 1);
            signsAre(check, Check.walkOf(0, back), sets, 1, -1, 1, -1, -1, 1);
        }
    }

    /**
     * Eleven columns with 2^k on the diagonal, in which column 10 may be taken for column 11: a
     * determinant that wraps around would be 0 or have the other sign.
     */
    @Says(in = "Terms", words = SIGN)
    static void signWrapsNowhere(Check check) {
        for (int bits = 9; bits <= 99; bits++) {
            int[][] rows = new int[11][12];
            rows[10][10] = 512;
            int left = bits - 9;
            for (int line = 0; line < 10; line++) {
                int here = Math.min(left, 9);
                rows[line][line] = 1 << here;
                left -= here;
            }
            for (int last = -1; last <= 1; last++) {
                rows[10][11] = last;
                BasisWalk walk = Check.walkOf(0, rows);
                check.due("sign of 2^" + bits, walk.sign(0, 2047), 1);
                check.due("sign of " + last + " times 2^" + (bits - 9), walk.sign(0, 3071), last);
            }
        }
    }

    @Says(in = "Terms", words = "in their order;")
    static void columnsInTheirOrder(Check check) {
        // Column 0 is the last one's place: the order of a set's columns tells the signs.
        BasisWalk walk = Check.walkOf(0, new int[][] {{0, 1, 0, 1}, {0, 0, 1, 0}, {1, 0, 0, 0}});
        signsAre(check, walk, new int[] {7, 13, 11, 14}, 1, -1, 0, 0);
        // Column 2 is column 0 again: in the set 6 it stands behind column 1.
        walk = Check.walkOf(0, new int[][] {{1, 0, 1}, {0, 1, 0}});
        signsAre(check, walk, new int[] {3, 5, 6}, 1, 0, -1);
    }

    private static final String TURNED = "all of them turned round, if need be, so that the first"
            + " basis in ORDER has 1 (with R 0 the empty set).";

    @Says(in = "Terms", words = TURNED)
    static void turnedRound(Check check) {
        BasisWalk walk = Check.walkOf(0, new int[][] {{0, 1, 2}, {1, 0, -3}});
        signsAre(check, walk, new int[] {3, 5, 6}, 1, 1, 1);
        walk = Check.walkOf(0, new int[][] {{-5, 7, -1, 0}});
        signsAre(check, walk, new int[] {1, 2, 4, 8}, 1, -1, 1, 0);
        walk = Check.walkOf(0, new int[][] {{-999}});
        signsAre(check, walk, new int[] {1}, 1);
    }

    @Says(in = "Terms", words = TURNED)
    static void notTurnedWithoutNeed(Check check) {
        BasisWalk walk = Check.walkOf(0, new int[][] {{5, -7, 1, 0}});
        signsAre(check, walk, new int[] {1, 2, 4, 8}, 1, -1, 1, 0);
    }

    /** The first sets of R, or even all but the last, are no bases. */
    @Says(in = "Terms", words = TURNED)
    static void firstBasisInOrderNotFirstSet(Check check) {
        int[] sets = {3, 5, 9, 6, 10, 12};
        BasisWalk walk = Check.walkOf(0, new int[][] {{1, 2, 2, 0}, {0, 0, 1, -1}});
        signsAre(check, walk, sets, 0, 1, -1, 1, -1, -1);
        walk = Check.walkOf(0, new int[][] {{1, 1, 1, 0}, {2, 2, 2, -1}});
        signsAre(check, walk, sets, 0, 0, 1, 0, 1, 1);
        walk = Check.walkOf(0, new int[][] {{0, 0, 0, 1}, {0, 0, 1, 0}});
        signsAre(check, walk, sets, 0, 0, 0, 0, 0, 1);
    }

    @Says(in = "Terms", words = TURNED)
    static void withR0TheEmptySetHas1(Check check) {
        BasisWalk walk = new BasisWalk();
        check.due("sign without columns", walk.sign(0, 0), 1);
        for (int columns = 0; columns <= 12; columns++) {
            walk.begin(0, 0, 12 - columns, columns);
            check.due("sign with " + columns + " columns of 0", walk.sign(0, 0), 1);
        }
    }

    private static final String SIGNS = "THE SIGNS of a circuit: of numbers for its columns, none of"
            + " them 0, with which each row's sum of products is 0,";

    /**
     * Rows with two numbers each, so that exactly these numbers, but for a factor, make each row's
     * sum of products 0.
     */
    private static BasisWalk circuitOf(int... numbers) {
        int[][] rows = new int[numbers.length - 1][numbers.length];
        for (int row = 0; row < rows.length; row++) {
            rows[row][row] = numbers[row + 1];
            rows[row][row + 1] = -numbers[row];
        }
        return Check.walkOf(0, rows);
    }

    @Says(in = "Terms", words = SIGNS)
    static void eachRowsSumIs0(Check check) {
        check.due("of two", circuitOf(2, -3).below(0, 0), 2);
        check.due("of two above 0", circuitOf(2, 3).below(0, 0), 0);
        check.due("of three", circuitOf(1, -1, 1).below(0, 0), 2);
        check.due("of four", circuitOf(2, -3, 5, -7).below(0, 0), 10);
        check.due("of all above 0", circuitOf(2, 3, 5, 7).below(0, 0), 0);
        // A column of 0 takes any number that is not 0.
        check.due("of one", Check.walkOf(0, new int[][] {{0}}).below(0, 0), 0);
    }

    /** Two circuits in one table, with needed columns between theirs. */
    @Says(in = "Terms", words = SIGNS)
    static void numbersForItsColumnsAlone(Check check) {
        BasisWalk walk = Check.walkOf(0, new int[][] {
            {0, 1, 0, 0, 0, 1, 0}, {9, 0, 0, 0, 0, 0, 0}, {0, 0, 1, 0, 1, 0, 1},
            {0, 0, 0, -2, 0, 0, 0}, {0, 0, 0, 0, 1, 0, 0}});
        Edges.membersAre(check, walk, 0, 1, 2 + 32, 4 + 64);
        check.due("of columns 1 and 5", walk.below(0, 0), 32);
        check.due("of columns 2 and 6", walk.below(0, 1), 64);
        walk.put(0, 2, 2, -1);
        check.due("of columns 2 and 6, turned", walk.below(0, 1), 0);
    }

    /** The numbers are products of eleven, up to 999^11, and the circuit is all twelve columns. */
    @Says(in = "Terms", words = SIGNS)
    static void greatNumbersOfAllTwelve(Check check) {
        for (int set = 0; set < 4096; set += 2 * 37) {
            int[] numbers = new int[12];
            int great = set % 4 == 0 ? 999 : 512;
            for (int e = 0; e < 12; e++) {
                numbers[e] = (set & 1 << e) == 0 ? great : -great;
            }
            check.due("below with " + great, circuitOf(numbers).below(0, 0), set);
        }
    }

    @Says(in = "Terms", words = "times what makes the one of its least column above 0, the signs")
    static void leastColumnIsAbove0(Check check) {
        check.due("of two", circuitOf(-2, 3).below(0, 0), 2);
        check.due("of two below 0", circuitOf(-2, -3).below(0, 0), 0);
        check.due("of four", circuitOf(-2, 3, 5, -7).below(0, 0), 6);
        int[] numbers = new int[12];
        for (int e = 0; e < 12; e++) {
            numbers[e] = e == 0 ? -1 : 1;
        }
        check.due("of twelve", circuitOf(numbers).below(0, 0), 4094);
        // The least column of the circuit, not of the table: circuits 3, 5, 6.
        BasisWalk walk = Check.walkOf(0, new int[][] {{1, -1, -1}});
        check.due("of columns 0 and 1", walk.below(0, 0), 0);
        check.due("of columns 0 and 2", walk.below(0, 1), 0);
        check.due("of columns 1 and 2", walk.below(0, 2), 4);
        // Neither a column of 0 before it nor one that is needed is its least.
        walk = Check.walkOf(0, new int[][] {{0, 0, 1, 1}, {0, 1, 0, 0}});
        check.due("of columns 2 and 3", walk.below(0, 1), 8);
    }

    @Says(in = "Terms", words = "(there are such, and but for what they are multiplied by no others).")
    static void noOtherSigns(Check check) {
        int[][] rows = {{1, 0, 2, 3}, {0, 1, -1, 4}};
        // Circuits 7, 11, 13, 14. The rows may be turned, changed for sums, or told twice.
        int[] due = {2 + 4, 8, 4 + 8, 8};
        int[][][] same = {rows, {rows[1], rows[0]}, {{-1, 0, -2, -3}, rows[1]},
            {{1, 1, 1, 7}, {2, 1, 3, 10}}, {rows[0], rows[0], rows[1], rows[1], {0, 0, 0, 0}}};
        for (int[][] table : same) {
            BasisWalk walk = Check.walkOf(0, table);
            for (int i = 0; i < 4; i++) {
                check.due("below " + i, walk.below(0, i), due[i]);
            }
        }
    }
}
