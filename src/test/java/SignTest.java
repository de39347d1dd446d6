/** Promise 9: sign. */
public final class SignTest {
    private static final Check CHECK = new Check("SignTest");

    public static void main(String[] args) {
        ordinary();
        turnedRound();
        rowsToSpare();
        greatest();
        nothing();
        wrongCalls();
        CHECK.finish();
    }

    private static void ordinary() {
        BasisWalk walk = Check.walkOf(0, new int[][] {{1, 0, 2, 3}, {0, 1, -1, 4}});
        int[] sets = {3, 5, 6, 9, 10, 12};
        int[] due = {1, -1, -1, 1, -1, 1};
        for (int k = 0; k < sets.length; k++) {
            CHECK.due("sign " + sets[k], walk.sign(0, sets[k]), due[k]);
        }
        walk.put(0, 1, 3, 0);
        walk.put(0, 0, 3, 5);
        CHECK.due("sign of no basis", walk.sign(0, 9), 0);
    }

    /** The first basis has 1 though its determinant is below 0, and though it is not the first set. */
    private static void turnedRound() {
        BasisWalk walk = Check.walkOf(0, new int[][] {{0, 0, 1, 2}, {1, 2, 0, 0}});
        CHECK.due("sign of the first set", walk.sign(0, 3), 0);
        CHECK.due("sign of the first basis", walk.sign(0, 5), 1);
        CHECK.due("sign of another", walk.sign(0, 10), 1);
        walk.put(0, 0, 3, -2);
        CHECK.due("sign of one turned", walk.sign(0, 10), -1);
        CHECK.due("sign of the last", walk.sign(0, 12), 0);
        BasisWalk one = Check.walkOf(0, new int[][] {{0, -5, 7, -1}});
        CHECK.due("one row, loop", one.sign(0, 1), 0);
        CHECK.due("one row, first", one.sign(0, 2), 1);
        CHECK.due("one row, other", one.sign(0, 4), -1);
        CHECK.due("one row, same", one.sign(0, 8), 1);
    }

    private static void rowsToSpare() {
        BasisWalk walk = Check.walkOf(0, new int[][] {
            {0, 0, 0}, {-2, -4, 2}, {1, 2, -1}, {0, 3, 3}, {1, 5, 2}});
        CHECK.due("rank", walk.rank(0, 7), 2);
        CHECK.due("sign 3", walk.sign(0, 3), 1);
        CHECK.due("sign 5", walk.sign(0, 5), 1);
        // 2 * 3 - (-1) * 3 is above 0, as 1 * 3 - 2 * 0 is.
        CHECK.due("sign 6", walk.sign(0, 6), 1);
        CHECK.due("sign 7", walk.sign(0, 7), 2);
    }

    /** A Hadamard matrix of order 12 times 999: no table has a greater determinant. */
    private static void greatest() {
        int[][] rows = new int[12][12];
        boolean[] square = new boolean[11];
        for (int k = 1; k < 11; k++) {
            square[k * k % 11] = true;
        }
        for (int r = 0; r < 12; r++) {
            for (int c = 0; c < 12; c++) {
                boolean minus = r != 0 && c != 0 && (r == c || !square[(c - r + 11) % 11]);
                rows[r][c] = minus ? -999 : 999;
            }
        }
        for (int r = 0; r < 12; r++) {
            for (int q = 0; q < r; q++) {
                int sum = 0;
                for (int c = 0; c < 12; c++) {
                    sum += rows[r][c] * rows[q][c];
                }
                CHECK.due("rows " + r + " and " + q + " at right angles", sum, 0);
            }
        }
        BasisWalk walk = Check.walkOf(0, rows);
        CHECK.due("greatest, rank", walk.rank(0, 4095), 12);
        CHECK.due("greatest, sign", walk.sign(0, 4095), 1);
        // With row 11 left out, the circuit's numbers are that row's, for it is at right angles.
        for (int c = 0; c < 12; c++) {
            walk.put(0, 11, c, 0);
        }
        int below = 0;
        for (int c = 0; c < 12; c++) {
            below += rows[11][c] == rows[11][0] ? 0 : 1 << c;
        }
        CHECK.due("eleven rows, rank", walk.rank(0, 4095), 11);
        CHECK.due("eleven rows, circuits", walk.count(0, 1), 1);
        CHECK.due("eleven rows, below", walk.below(0, 0), below);
        int first = 0;
        for (int c = 11; c >= 0; c--) {
            int turn = (rows[11][c] < 0 ? -1 : 1) * (c % 2 == 0 ? 1 : -1);
            first = first == 0 ? turn : first;
            CHECK.due("eleven rows, sign without " + c, walk.sign(0, 4095 - (1 << c)), turn * first);
        }
    }

    private static void nothing() {
        BasisWalk walk = new BasisWalk();
        CHECK.due("no columns", walk.sign(0, 0), 1);
        walk.begin(0, 0, 3, 2);
        CHECK.due("all 0", walk.sign(0, 0), 1);
        CHECK.due("one of all 0", walk.sign(0, 1), 2);
        walk.begin(0, 0, 0, 2);
        CHECK.due("no rows", walk.sign(0, 0), 1);
        walk.begin(0, 3, 0, 2);
        CHECK.due("no rows of field 3", walk.sign(0, 0), 2);
    }

    private static void wrongCalls() {
        BasisWalk walk = Check.walkOf(0, new int[][] {{1, 2, 3}, {0, 1, 5}});
        int[] sets = {0, 1, 2, 4, 7, 8, 9, 10, 12, 24, -1, -3, 5 << 20, Integer.MIN_VALUE,
            Integer.MIN_VALUE + 1, Integer.MAX_VALUE};
        for (int bad : sets) {
            CHECK.due("sign of " + bad, walk.sign(0, bad), 2);
        }
        int[] tables = {-1, 4, Integer.MIN_VALUE, Integer.MAX_VALUE};
        for (int bad : tables) {
            CHECK.due("sign in " + bad, walk.sign(bad, 0), 2);
        }
        walk.begin(1, 7, 1, 1);
        walk.put(1, 0, 0, 1);
        CHECK.due("sign in field 7", walk.sign(1, 1), 2);
        CHECK.due("sign in field 7 of others", walk.sign(1, 2), 2);
    }
}
