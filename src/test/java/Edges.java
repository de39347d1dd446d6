/** Arguments just beside, or far beside, what is such, and tables as small or great as can be. */
final class Edges {
    static final int NONE = BasisWalk.NONE;
    static final int MOST = Integer.MAX_VALUE;
    static final int LEAST = Integer.MIN_VALUE;

    /** Also those that are 0 .. 3 in their lowest bits alone. */
    static final int[] NO_TABLES = {-1, 4, 5, -4, 8, 256, 1 << 16, LEAST, LEAST + 3, MOST};

    static final int[] PRIMES = {2, 3, 5, 7, 11, 13, 17, 19, 23, 29, 31, 37, 41, 43, 47, 53, 59,
        61, 67, 71, 73, 79, 83, 89, 97, 101, 103, 107, 109, 113, 127, 131, 137, 139, 149, 151, 157,
        163, 167, 173, 179, 181, 191, 193, 197, 199, 211, 223, 227, 229, 233, 239, 241, 251};

    private Edges() {
    }

    /** Twelve columns of which any so many are independent: powers of 1 .. 12 over 13. */
    static BasisWalk uniform(int rank) {
        int[][] rows = new int[rank][12];
        for (int column = 0; column < 12; column++) {
            int power = 1;
            for (int row = 0; row < rank; row++) {
                rows[row][column] = power;
                power = power * (column + 1) % 13;
            }
        }
        return Check.walkOf(13, rows);
    }

    /** So many rows and columns, the numbers given on the diagonal and 0 elsewhere. */
    static int[][] diagonal(int lines, int... numbers) {
        int[][] rows = new int[lines][lines];
        for (int line = 0; line < lines; line++) {
            rows[line][line] = numbers[line % numbers.length];
        }
        return rows;
    }

    /** All members of a kind, as many as there are counted, and that there is none beside them. */
    static void membersAre(Check check, BasisWalk walk, int t, int kind, int... due) {
        check.due("count(" + t + ", " + kind + ")", walk.count(t, kind), due.length);
        for (int i = 0; i < due.length; i++) {
            check.due("member(" + t + ", " + kind + ", " + i + ")", walk.member(t, kind, i), due[i]);
        }
        check.due("none behind", walk.member(t, kind, due.length), NONE);
    }
}
