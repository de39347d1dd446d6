/** Sentences of 'What it is' and 'The public face', and of 'Terms' about tables and ranks. */
final class TermsSentences {
    private static final int NONE = Edges.NONE;

    private TermsSentences() {
    }

    @Says(in = "What it is", words = "An object is used for at most 512 calls after it has been made")
    static void call512StillAnswers(Check check) {
        for (int last = 0; last < 9; last++) {
            BasisWalk walk = new BasisWalk();
            for (int call = 1; call <= 508; call++) {
                anyCall(walk, call);
            }
            walk.begin(0, 0, 1, 2);
            walk.put(0, 0, 0, 1);
            walk.put(0, 0, 1, 1);
            lastCall(check, walk, last);
        }
    }

    private static void anyCall(BasisWalk walk, int call) {
        int t = call / 4 % 4;
        switch (call % 4) {
            case 0 -> walk.begin(t, 0, 12, 12);
            case 1 -> walk.put(t, call % 12, 11, call);
            case 2 -> walk.count(t, 3);
            default -> walk.rank(t, 5000);
        }
    }

    private static void lastCall(Check check, BasisWalk walk, int last) {
        switch (last) {
            case 0 -> check.due("begin as call 512", walk.begin(0, 251, 12, 12), true);
            case 1 -> check.due("put as call 512", walk.put(0, 0, 1, -999), true);
            case 2 -> check.due("columns as call 512", walk.columns(0), 2);
            case 3 -> check.due("rank as call 512", walk.rank(0, 3), 1);
            case 4 -> check.due("count as call 512", walk.count(0, 0), 2);
            case 5 -> check.due("member as call 512", walk.member(0, 3, 1), 3);
            case 6 -> check.due("tutte as call 512", walk.tutte(0, 1, 0), 1);
            case 7 -> check.due("sign as call 512", walk.sign(0, 2), 1);
            default -> check.due("below as call 512", walk.below(0, 0), 2);
        }
    }

    @Says(in = "The public face", words = "public static final int NONE = -1;")
    static void noneIsMinus1(Check check) {
        check.due("NONE", BasisWalk.NONE, -1);
        check.due("columns(4)", new BasisWalk().columns(4), -1);
    }

    @Says(in = "Terms", words = "There are four TABLES, 0 .. 3")
    static void tables0To3(Check check) {
        BasisWalk walk = new BasisWalk();
        for (int t = 0; t < 4; t++) {
            check.due("begin of table " + t, walk.begin(t, 0, 1, 12 - t), true);
        }
        for (int none : Edges.NO_TABLES) {
            check.due("begin of table " + none, walk.begin(none, 0, 1, 1), false);
            check.due("columns of table " + none, walk.columns(none), NONE);
        }
        for (int t = 0; t < 4; t++) {
            check.due("columns of table " + t, walk.columns(t), 12 - t);
        }
    }

    @Says(in = "Terms", words = "each of a FIELD, 0 for the rational numbers")
    static void field0IsTheRationals(Check check) {
        // No multiple of a prime is 0 there.
        for (int prime : Edges.PRIMES) {
            check.due("rank of " + prime, Check.walkOf(0, new int[][] {{prime}}).rank(0, 1), 1);
        }
        // Column 1 is column 0 times 3/2, which is no whole number.
        BasisWalk walk = Check.walkOf(0, new int[][] {{2, 3}, {4, 6}});
        check.due("rank of 2 and 3", walk.rank(0, 3), 1);
        // Each table has a field of its own.
        for (int t = 0; t < 4; t++) {
            walk.begin(t, t % 2 == 0 ? 0 : 5, 1, 1);
            walk.put(t, 0, 0, 5);
        }
        for (int t = 0; t < 4; t++) {
            check.due("rank of 5 in table " + t, walk.rank(t, 1), t % 2 == 0 ? 1 : 0);
        }
    }

    @Says(in = "Terms", words = "or a prime 2 .. 251 for its residues")
    static void primes2To251(Check check) {
        boolean[] isField = new boolean[301];
        isField[0] = true;
        for (int prime : Edges.PRIMES) {
            isField[prime] = true;
        }
        BasisWalk walk = new BasisWalk();
        for (int field = 0; field <= 300; field++) {
            check.due("field " + field, walk.begin(0, field, 1, 1), isField[field]);
        }
        walk = new BasisWalk();
        for (int field = 1; field <= 300; field++) {
            check.due("field " + -field, walk.begin(0, -field, 1, 1), false);
        }
        // Primes too great, and some that are primes, or 0, in their lowest bits alone.
        int[] far = {257, 263, 509, 65537, 256, 258, 256 + 251, 65536, 65536 + 2, 46337 * 46337,
            Edges.MOST, Edges.LEAST, Edges.LEAST + 2, Edges.LEAST + 251};
        for (int field : far) {
            check.due("field " + field, walk.begin(0, field, 1, 1), false);
        }
    }

    @Says(in = "Terms", words = "or a prime 2 .. 251 for its residues")
    static void residuesOfEachPrime(Check check) {
        for (int prime : Edges.PRIMES) {
            // The determinant is prime * (prime - 2).
            int[][] rows = {{prime - 1, 1}, {1, prime - 1}};
            check.due("rank over " + prime, Check.walkOf(prime, rows).rank(0, 3), 1);
            check.due("rank of 1 over " + prime, Check.walkOf(prime, rows).rank(0, 1), 1);
            rows[0][0] = prime;
            check.due("the residue 0 of " + prime, Check.walkOf(prime, rows).rank(0, 3), 2);
            rows[1][0] = 0;
            check.due("a column of residue 0", Check.walkOf(prime, rows).rank(0, 1), 0);
        }
    }

    @Says(in = "Terms", words = "with 0 .. 12 rows")
    static void rows0To12(Check check) {
        BasisWalk walk = new BasisWalk();
        for (int rows = 0; rows <= 12; rows++) {
            check.due("begin with " + rows + " rows", walk.begin(0, 0, rows, 1), true);
            check.due("put in the last of " + rows, walk.put(0, rows - 1, 0, 1), rows > 0);
            check.due("put behind it", walk.put(0, rows, 0, 1), false);
            check.due("rank", walk.rank(0, 1), rows > 0 ? 1 : 0);
        }
        for (int rows : new int[] {-1, 13, -12, 16, 256, 268, Edges.LEAST, Edges.MOST}) {
            check.due("begin with " + rows + " rows", walk.begin(0, 0, rows, 1), false);
        }
    }

    @Says(in = "Terms", words = "and N columns, 0 .. 12")
    static void columns0To12(Check check) {
        BasisWalk walk = new BasisWalk();
        for (int columns = 0; columns <= 12; columns++) {
            check.due("begin with " + columns, walk.begin(0, 0, 1, columns), true);
            check.due("columns " + columns, walk.columns(0), columns);
            check.due("put in the last of " + columns, walk.put(0, 0, columns - 1, 1), columns > 0);
            check.due("put behind it", walk.put(0, 0, columns, 1), false);
            check.due("rank", walk.rank(0, (1 << columns) - 1), columns > 0 ? 1 : 0);
        }
        for (int columns : new int[] {-1, 13, -12, 16, 256, 268, Edges.LEAST, Edges.MOST}) {
            check.due("begin with " + columns, walk.begin(0, 0, 1, columns), false);
            check.due("columns after that", walk.columns(0), 12);
        }
    }

    @Says(in = "Terms", words = "at first of field 0, without rows and columns")
    static void atFirst(Check check) {
        for (int t = 0; t < 4; t++) {
            BasisWalk walk = new BasisWalk();
            // A prime field would answer 2.
            check.due("first sign of table " + t, walk.sign(t, 0), 1);
            check.due("first columns of table " + t, walk.columns(t), 0);
            check.due("first put in table " + t, walk.put(t, 0, 0, 1), false);
            check.due("first rank of a column of table " + t, walk.rank(t, 1), NONE);
        }
    }

    @Says(in = "Terms", words = "The SPACE of a table are all rows that come of its rows.")
    static void spaceIsAllThatComesOfTheRows(Check check) {
        // Only 3 times row 0 less 2 times row 1 is 0 in column 0.
        BasisWalk walk = Check.walkOf(0, new int[][] {{2, 3, 0}, {3, 0, 5}});
        Edges.membersAre(check, walk, 0, 2, 3, 5, 6);
        // Of rows 12 and 21 over 3, which are one and the same but for a factor, comes no more.
        walk = Check.walkOf(3, new int[][] {{1, 2}, {2, 1}});
        Edges.membersAre(check, walk, 0, 2, 3);
    }

    @Says(in = "Terms", words = "The SPACE of a table are all rows that come of its rows.")
    static void spaceOfNoRowsHasOnlyTheRowOf0(Check check) {
        BasisWalk walk = new BasisWalk();
        for (int rows = 0; rows <= 12; rows += 12) {
            walk.begin(0, 0, rows, 12);
            check.due("cocircuits without numbers", walk.count(0, 2), 0);
            check.due("rank without numbers", walk.rank(0, 4095), 0);
        }
    }

    @Says(in = "Terms", words = "SETS are sets of columns, told as sums of 2^e for columns e.")
    static void setsAreSumsOfPowersOf2(Check check) {
        BasisWalk walk = new BasisWalk();
        for (int e = 0; e < 12; e++) {
            walk.begin(0, 0, 1, 12);
            walk.put(0, 0, e, 1);
            check.due("rank of column " + e, walk.rank(0, 1 << e), 1);
            check.due("rank of the others", walk.rank(0, 4095 - (1 << e)), 0);
            check.due("the basis of column " + e, walk.member(0, 0, 0), 1 << e);
            check.due("the flat of the others", walk.member(0, 3, 0), 4095 - (1 << e));
        }
        check.due("rank of the empty set", walk.rank(0, 0), 0);
    }

    @Says(in = "Terms", words = "The RANK of a set is the dimension of the space of what the rows"
            + " have in its columns;")
    static void rankOfSmallestAndGreatestSets(Check check) {
        BasisWalk walk = Check.walkOf(0, Edges.diagonal(12, 1, -1, 999, -999));
        for (int columns = 0; columns <= 12; columns++) {
            int set = (1 << columns) - 1;
            check.due("rank of the first " + columns, walk.rank(0, set), columns);
            check.due("rank of the others", walk.rank(0, 4095 - set), 12 - columns);
        }
        walk.begin(0, 0, 0, 12);
        check.due("rank without rows", walk.rank(0, 4095), 0);
        walk.begin(0, 0, 12, 0);
        check.due("rank without columns", walk.rank(0, 0), 0);
    }

    @Says(in = "Terms", words = "The RANK of a set is the dimension of the space of what the rows"
            + " have in its columns;")
    static void rankOfMoreRowsOrMoreColumns(Check check) {
        int[][] high = new int[12][2];
        int[][] wide = new int[2][12];
        for (int line = 0; line < 12; line++) {
            high[line][0] = 1;
            high[line][1] = line;
            wide[0][line] = 1;
            wide[1][line] = line;
        }
        check.due("rank of 12 rows and 2 columns", Check.walkOf(0, high).rank(0, 3), 2);
        check.due("rank of 2 rows and 12 columns", Check.walkOf(0, wide).rank(0, 4095), 2);
        check.due("rank over 2", Check.walkOf(2, wide).rank(0, 4095), 2);
        check.due("rank over 2 of columns 1 and 3", Check.walkOf(2, wide).rank(0, 10), 1);
        check.due("rank over 3 of columns 1 and 3", Check.walkOf(3, wide).rank(0, 10), 2);
    }

    /** The determinants are 2^k, so that one that wraps around is 0 or has another sign. */
    @Says(in = "Terms", words = "The RANK of a set is the dimension of the space of what the rows"
            + " have in its columns;")
    static void rankWrapsNowhere(Check check) {
        for (int bits = 0; bits <= 108; bits++) {
            int[][] rows = new int[12][12];
            int left = bits;
            for (int line = 0; line < 12; line++) {
                int here = Math.min(left, 9);
                rows[line][line] = 1 << here;
                left -= here;
            }
            check.due("rank of determinant 2^" + bits, Check.walkOf(0, rows).rank(0, 4095), 12);
        }
        // The other way round: two products of 999^12 that take each other away, or miss by little.
        BasisWalk walk = Check.walkOf(0, Edges.diagonal(12, 999));
        for (int line = 0; line < 12; line++) {
            walk.put(0, line, (line + 1) % 12, 999);
        }
        check.due("rank of determinant 0", walk.rank(0, 4095), 11);
        walk.put(0, 0, 0, 998);
        check.due("rank of determinant 999^11", walk.rank(0, 4095), 12);
    }

    /** The last row is the sum of three others; all products are too great to be kept as doubles. */
    @Says(in = "Terms", words = "The RANK of a set is the dimension of the space of what the rows"
            + " have in its columns;")
    static void rankIsExact(Check check) {
        int[][] rows = new int[12][12];
        for (int row = 0; row < 11; row++) {
            for (int column = 0; column < 12; column++) {
                int mixed = row * row * 37 + column * column * 53 + row * column * 197;
                rows[row][column] = mixed % 601 - 300;
            }
        }
        for (int column = 0; column < 12; column++) {
            rows[11][column] = rows[0][column] + rows[5][column] + rows[10][column];
        }
        BasisWalk walk = Check.walkOf(0, rows);
        check.due("rank of twelve rows of which one is a sum", walk.rank(0, 4095), 11);
        walk.put(0, 11, 7, rows[11][7] + 1);
        check.due("rank beside it", walk.rank(0, 4095), 12);
    }

    @Says(in = "Terms", words = "R is the rank of all.")
    static void rIsTheRankOfAll(Check check) {
        // Two rows, three columns that are not 0, but R is 1.
        BasisWalk walk = Check.walkOf(0, new int[][] {{1, -1, 2}, {-2, 2, -4}});
        check.due("rank of all", walk.rank(0, 7), 1);
        check.due("a basis has R columns", walk.member(0, 0, 2), 4);
        check.due("sign of a set of R", walk.sign(0, 2), -1);
        check.due("sign of a set of 2", walk.sign(0, 3), 2);
        check.due("x to R", walk.tutte(0, 1, 0), 1);
        check.due("x to more", walk.tutte(0, 2, 0), 0);
    }

    private static final String TUTTE = "THE TUTTE POLYNOMIAL in x and y: the sum over all sets S,"
            + " of rank s, of (x - 1)^(R - s) (y - 1)^(|S| - s).";

    @Says(in = "Terms", words = TUTTE)
    static void tutteOfNothingIs1(Check check) {
        BasisWalk walk = new BasisWalk();
        for (int rows = 0; rows <= 12; rows += 12) {
            walk.begin(0, 2, rows, 0);
            check.due("1", walk.tutte(0, 0, 0), 1);
            check.due("x", walk.tutte(0, 1, 0), 0);
            check.due("y", walk.tutte(0, 0, 1), 0);
        }
    }

    /** With n columns that all bases need, and the others 0, it is x^n y^(12 - n). */
    @Says(in = "Terms", words = TUTTE)
    static void tutteOfOnePower(Check check) {
        for (int n = 0; n <= 12; n++) {
            BasisWalk walk = new BasisWalk();
            walk.begin(0, 0, 12, 12);
            for (int line = 0; line < n; line++) {
                walk.put(0, line, line, 1);
            }
            for (int i = 0; i <= 12; i++) {
                for (int j = 0; j <= 12; j++) {
                    check.due("of x^" + n + " y^" + (12 - n) + " that of x^" + i + " y^" + j,
                            walk.tutte(0, i, j), i == n && j == 12 - n ? 1 : 0);
                }
            }
        }
    }

    /**
     * With any r of twelve columns independent, and no more, it is the sum of (11 - i) over
     * (r - i) times x^i for i from 1 to r, and of (11 - j) over (r - 1) times y^j for j from 1 to
     * 12 - r.
     */
    @Says(in = "Terms", words = TUTTE)
    static void tutteSumsOverAllSets(Check check) {
        for (int r = 1; r < 12; r++) {
            BasisWalk walk = Edges.uniform(r);
            for (int i = 0; i <= 12; i++) {
                long x = i < 1 || i > r ? 0 : over(11 - i, r - i);
                long y = i < 1 || i > 12 - r ? 0 : over(11 - i, r - 1);
                check.due(r + " of 12: x^" + i, walk.tutte(0, i, 0), x);
                check.due(r + " of 12: y^" + i, walk.tutte(0, 0, i), y);
                check.due(r + " of 12: x y^" + i, walk.tutte(0, 1, i), i == 0 ? over(10, r - 1) : 0);
            }
        }
    }

    private static long over(int n, int k) {
        if (k < 0 || k > n) {
            return 0;
        }
        return k == 0 ? 1 : over(n - 1, k - 1) + over(n - 1, k);
    }
}
