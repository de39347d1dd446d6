/** Sentences of promises 5 to 10. */
final class AnswersSentences {
    private static final int NONE = Edges.NONE;
    private static final int BASES = 0;
    private static final int CIRCUITS = 1;
    private static final int COCIRCUITS = 2;
    private static final int FLATS = 3;
    private static final int[] NO_KINDS = {-1, 4, -4, 5, 256, Edges.LEAST, Edges.LEAST + 1, Edges.MOST};

    private AnswersSentences() {
    }

    @Says(in = "Promise 5", words = "The rank of a set;")
    static void rankOfEachSet(Check check) {
        BasisWalk walk = Check.walkOf(0, new int[][] {{1, 2, 0, 1}, {2, 4, 0, 1}, {3, 6, 0, 2}});
        int[] due = {0, 1, 1, 1, 0, 1, 1, 1, 1, 2, 2, 2, 1, 2, 2, 2};
        for (int set = 0; set < due.length; set++) {
            check.due("rank(0, " + set + ")", walk.rank(0, set), due[set]);
        }
    }

    private static final String NO_RANK = "NONE when there is no such table, or it has other columns,"
            + " or is below 0.";

    @Says(in = "Promise 5", words = NO_RANK)
    static void rankNoneForNoTable(Check check) {
        BasisWalk walk = new BasisWalk();
        for (int none : Edges.NO_TABLES) {
            check.due("rank(" + none + ", 0)", walk.rank(none, 0), NONE);
        }
    }

    @Says(in = "Promise 5", words = NO_RANK)
    static void rankNoneForOtherColumns(Check check) {
        for (int n = 0; n <= 12; n++) {
            BasisWalk walk = Check.walkOf(0, Edges.diagonal(n, 1));
            check.due("rank of all " + n, walk.rank(0, (1 << n) - 1), n);
            for (int e = n; e < 31; e++) {
                check.due("rank of column " + e + " of " + n, walk.rank(0, 1 << e), NONE);
                check.due("rank of all and " + e, walk.rank(0, (1 << n) - 1 + (1 << e)), NONE);
            }
            check.due("rank of 31 columns", walk.rank(0, Edges.MOST), NONE);
        }
        // A column that was there before.
        BasisWalk walk = Check.walkOf(0, Edges.diagonal(12, 1));
        check.due("rank of column 11", walk.rank(0, 2048), 1);
        walk.begin(0, 0, 12, 11);
        check.due("rank of no more column 11", walk.rank(0, 2048), NONE);
    }

    @Says(in = "Promise 5", words = NO_RANK)
    static void rankNoneBelow0(Check check) {
        for (int n = 0; n <= 12; n += 6) {
            BasisWalk walk = Check.walkOf(0, Edges.diagonal(n, 1));
            for (int set : new int[] {-1, -2, -4096, -4095, Edges.LEAST, Edges.LEAST + 1}) {
                check.due("rank(0, " + set + ")", walk.rank(0, set), NONE);
            }
        }
    }

    private static final String KINDS = "How many there are: kind 0 bases, 1 circuits, 2 cocircuits,"
            + " 3 flats;";

    @Says(in = "Promise 6", words = KINDS)
    static void countOfEachKind(Check check) {
        BasisWalk walk = Check.walkOf(2, new int[][] {{1, 1, 0, 0, 0}, {0, 1, 1, 0, 0}, {0, 0, 0, 1, 0}});
        check.due("bases", walk.count(0, BASES), 3);
        check.due("circuits", walk.count(0, CIRCUITS), 2);
        check.due("cocircuits", walk.count(0, COCIRCUITS), 4);
        check.due("flats", walk.count(0, FLATS), 10);
    }

    /** None has more than 924, but for the flats, that may be all 4096. */
    @Says(in = "Promise 6", words = KINDS)
    static void countsAsGreatAsCanBe(Check check) {
        check.due("bases of 6 of 12", Edges.uniform(6).count(0, BASES), 924);
        check.due("circuits of 5 of 12", Edges.uniform(5).count(0, CIRCUITS), 924);
        check.due("cocircuits of 7 of 12", Edges.uniform(7).count(0, COCIRCUITS), 924);
        check.due("flats of 12", Check.walkOf(0, Edges.diagonal(12, 1)).count(0, FLATS), 4096);
        BasisWalk walk = Edges.uniform(6);
        check.due("circuits of 6 of 12", walk.count(0, CIRCUITS), 792);
        check.due("cocircuits of 6 of 12", walk.count(0, COCIRCUITS), 792);
        check.due("flats of 6 of 12", walk.count(0, FLATS), 1 + 12 + 66 + 220 + 495 + 792 + 1);
    }

    @Says(in = "Promise 6", words = KINDS)
    static void countsAsSmallAsCanBe(Check check) {
        BasisWalk walk = new BasisWalk();
        for (int columns = 0; columns <= 12; columns++) {
            walk.begin(0, 0, 12, columns);
            check.due("bases without numbers", walk.count(0, BASES), 1);
            check.due("circuits without numbers", walk.count(0, CIRCUITS), columns);
            check.due("cocircuits without numbers", walk.count(0, COCIRCUITS), 0);
            check.due("flats without numbers", walk.count(0, FLATS), 1);
        }
    }

    private static final String NO_COUNT = "NONE when there is no such table or kind.";

    @Says(in = "Promise 6", words = NO_COUNT)
    static void countNoneForNoTable(Check check) {
        BasisWalk walk = new BasisWalk();
        for (int none : Edges.NO_TABLES) {
            for (int kind = 0; kind < 4; kind++) {
                check.due("count(" + none + ", " + kind + ")", walk.count(none, kind), NONE);
            }
        }
    }

    @Says(in = "Promise 6", words = NO_COUNT)
    static void countNoneForNoKind(Check check) {
        BasisWalk walk = Edges.uniform(6);
        for (int none : NO_KINDS) {
            check.due("count(0, " + none + ")", walk.count(0, none), NONE);
            check.due("count(1, " + none + ")", walk.count(1, none), NONE);
        }
    }

    private static final String MEMBER = "The i-th of these, from 0 on, in ORDER;";

    @Says(in = "Promise 7", words = MEMBER)
    static void memberOfEachKind(Check check) {
        BasisWalk walk = Check.walkOf(2, new int[][] {{1, 1, 0, 0, 0}, {0, 1, 1, 0, 0}, {0, 0, 0, 1, 0}});
        Edges.membersAre(check, walk, 0, BASES, 11, 13, 14);
        Edges.membersAre(check, walk, 0, CIRCUITS, 16, 7);
        Edges.membersAre(check, walk, 0, COCIRCUITS, 8, 3, 5, 6);
        Edges.membersAre(check, walk, 0, FLATS, 16, 17, 18, 20, 24, 25, 26, 28, 23, 31);
    }

    @Says(in = "Promise 7", words = MEMBER)
    static void firstAndLastOfTheGreatest(Check check) {
        BasisWalk walk = Edges.uniform(6);
        check.due("first basis", walk.member(0, BASES, 0), 63);
        check.due("last basis", walk.member(0, BASES, 923), 4032);
        check.due("first circuit", walk.member(0, CIRCUITS, 0), 127);
        check.due("last circuit", walk.member(0, CIRCUITS, 791), 4064);
        check.due("first cocircuit", walk.member(0, COCIRCUITS, 0), 127);
        check.due("last cocircuit", walk.member(0, COCIRCUITS, 791), 4064);
        check.due("first flat", walk.member(0, FLATS, 0), 0);
        check.due("last flat", walk.member(0, FLATS, 1586), 4095);
        walk = Edges.uniform(5);
        check.due("first of 924 circuits", walk.member(0, CIRCUITS, 0), 63);
        check.due("last of 924 circuits", walk.member(0, CIRCUITS, 923), 4032);
        walk = Edges.uniform(7);
        check.due("first of 924 cocircuits", walk.member(0, COCIRCUITS, 0), 63);
        check.due("last of 924 cocircuits", walk.member(0, COCIRCUITS, 923), 4032);
        check.due("none behind", walk.member(0, COCIRCUITS, 924), NONE);
    }

    private static final String NO_MEMBER = "NONE when there is none such.";

    @Says(in = "Promise 7", words = NO_MEMBER)
    static void memberNoneBeforeAndBehind(Check check) {
        BasisWalk walk = Edges.uniform(6);
        for (int kind = 0; kind < 4; kind++) {
            int many = new int[] {924, 792, 792, 1587}[kind];
            check.due("the last one is there", walk.member(0, kind, many - 1) != NONE, true);
            for (int i : new int[] {-1, -2, -924, many, many + 1, 4095, 4096, 1 << 16,
                Edges.LEAST, Edges.MOST}) {
                check.due("member(0, " + kind + ", " + i + ")", walk.member(0, kind, i), NONE);
            }
        }
    }

    @Says(in = "Promise 7", words = NO_MEMBER)
    static void memberNoneOfNone(Check check) {
        BasisWalk walk = new BasisWalk();
        walk.begin(1, 0, 12, 12);
        for (int t = 0; t < 2; t++) {
            check.due("first cocircuit in table " + t, walk.member(t, COCIRCUITS, 0), NONE);
            check.due("second basis in table " + t, walk.member(t, BASES, 1), NONE);
            check.due("second flat in table " + t, walk.member(t, FLATS, 1), NONE);
        }
        check.due("first circuit", walk.member(0, CIRCUITS, 0), NONE);
    }

    @Says(in = "Promise 7", words = NO_MEMBER)
    static void memberNoneForNoTable(Check check) {
        BasisWalk walk = new BasisWalk();
        for (int none : Edges.NO_TABLES) {
            for (int kind = 0; kind < 4; kind++) {
                check.due("member(" + none + ", " + kind + ", 0)", walk.member(none, kind, 0), NONE);
            }
        }
    }

    @Says(in = "Promise 7", words = NO_MEMBER)
    static void memberNoneForNoKind(Check check) {
        BasisWalk walk = Edges.uniform(6);
        for (int none : NO_KINDS) {
            for (int i = -1; i <= 1; i++) {
                check.due("member(0, " + none + ", " + i + ")", walk.member(0, none, i), NONE);
            }
        }
    }

    @Says(in = "Promise 8", words = "The coefficient of x^i y^j in the Tutte polynomial;")
    static void coefficients(Check check) {
        // The lines of a complete graph of four points: x^3 + 3x^2 + 2x + 4xy + 2y + 3y^2 + y^3.
        BasisWalk walk = Check.walkOf(2, new int[][] {
            {1, 1, 1, 0, 0, 0}, {1, 0, 0, 1, 1, 0}, {0, 1, 0, 1, 0, 1}});
        long[][] due = {{0, 2, 3, 1}, {2, 4, 0, 0}, {3, 0, 0, 0}, {1, 0, 0, 0}};
        for (int i = 0; i < 4; i++) {
            for (int j = 0; j < 4; j++) {
                check.due("of x^" + i + " y^" + j, walk.tutte(0, i, j), due[i][j]);
            }
        }
        // x is for what bases need, y for columns of 0, and not the other way round.
        walk = Check.walkOf(0, new int[][] {{1, 0, 0}});
        check.due("of x y^2", walk.tutte(0, 1, 2), 1);
        check.due("of x^2 y", walk.tutte(0, 2, 1), 0);
    }

    private static final String NOT_IN_IT = "0 for all that are not in it, and when there is no such"
            + " table.";

    /** Also those that would be another's place, were the coefficients laid end to end. */
    @Says(in = "Promise 8", words = NOT_IN_IT)
    static void tutte0ForWhatIsNotInIt(Check check) {
        int[] far = {-14, -13, -12, -1, 12, 13, 14, 25, 26, 31, 32, 256, Edges.LEAST, Edges.LEAST + 1,
            Edges.MOST};
        // x + y: all others are not in it.
        BasisWalk walk = Check.walkOf(0, new int[][] {{1, 1}});
        for (int out : far) {
            for (int other = 0; other < 3; other++) {
                check.due("of x^" + out + " y^" + other, walk.tutte(0, out, other), 0);
                check.due("of x^" + other + " y^" + out, walk.tutte(0, other, out), 0);
            }
            check.due("of x^" + out + " y^" + out, walk.tutte(0, out, out), 0);
        }
        check.due("of x", walk.tutte(0, 1, 0), 1);
        check.due("of y", walk.tutte(0, 0, 1), 1);
        check.due("of 1", walk.tutte(0, 0, 0), 0);
        check.due("of x y", walk.tutte(0, 1, 1), 0);
    }

    @Says(in = "Promise 8", words = NOT_IN_IT)
    static void tutte0BesideTheGreatestPowers(Check check) {
        BasisWalk walk = Check.walkOf(0, Edges.diagonal(12, 1));
        walk.begin(1, 0, 12, 12);
        check.due("of x^12", walk.tutte(0, 12, 0), 1);
        check.due("of x^13", walk.tutte(0, 13, 0), 0);
        check.due("of x^11 y^13", walk.tutte(0, 11, 13), 0);
        check.due("of x^13 y^-13", walk.tutte(0, 13, -13), 0);
        check.due("of y^12", walk.tutte(1, 0, 12), 1);
        check.due("of y^13", walk.tutte(1, 0, 13), 0);
        check.due("of x y^-1", walk.tutte(1, 1, -1), 0);
        check.due("of x^-1 y^25", walk.tutte(1, -1, 25), 0);
    }

    @Says(in = "Promise 8", words = NOT_IN_IT)
    static void tutte0ForNoTable(Check check) {
        BasisWalk walk = new BasisWalk();
        check.due("tutte(0, 0, 0)", walk.tutte(0, 0, 0), 1);
        for (int none : Edges.NO_TABLES) {
            check.due("tutte(" + none + ", 0, 0)", walk.tutte(none, 0, 0), 0);
        }
    }

    private static final String SIGN = "The sign of a set (0 when it is no basis);";

    @Says(in = "Promise 9", words = SIGN)
    static void signOfEachSetOfR(Check check) {
        BasisWalk walk = Check.walkOf(0, new int[][] {{1, 0, 2, 3}, {0, 1, -1, 4}});
        int[] sets = {3, 5, 9, 6, 10, 12};
        int[] due = {1, -1, 1, -1, -1, 1};
        for (int k = 0; k < sets.length; k++) {
            check.due("sign(0, " + sets[k] + ")", walk.sign(0, sets[k]), due[k]);
        }
        check.due("sign of all twelve", Check.walkOf(0, Edges.diagonal(12, -999)).sign(0, 4095), 1);
    }

    @Says(in = "Promise 9", words = SIGN)
    static void sign0WhenNoBasis(Check check) {
        BasisWalk walk = Check.walkOf(0, new int[][] {{1, 2, 0, 0}, {0, 0, 0, -1}});
        check.due("sign of multiples", walk.sign(0, 3), 0);
        check.due("sign with a column of 0", walk.sign(0, 5), 0);
        check.due("sign of a basis", walk.sign(0, 9), 1);
        // 2047 and 4095 - 1024 are bases, all other sets of eleven are none.
        int[][] rows = Edges.diagonal(12, 1);
        rows[11][11] = 0;
        rows[10][11] = -1;
        walk = Check.walkOf(0, rows);
        for (int e = 0; e < 12; e++) {
            check.due("sign of all but " + e, walk.sign(0, 4095 - (1 << e)),
                    e == 11 ? 1 : e == 10 ? -1 : 0);
        }
    }

    private static final String NO_SIGN = "2 when it has not R columns (or others), or the table is"
            + " not of field 0, or there is none.";

    @Says(in = "Promise 9", words = NO_SIGN)
    static void sign2WhenNotRColumns(Check check) {
        for (int r = 0; r <= 4; r++) {
            BasisWalk walk = new BasisWalk();
            walk.begin(0, 0, 12, 4);
            for (int line = 0; line < r; line++) {
                walk.put(0, line, line, 1);
            }
            for (int set = 0; set < 16; set++) {
                boolean isBasis = set == (1 << r) - 1;
                check.due("sign of " + set + " with R " + r, walk.sign(0, set),
                        Integer.bitCount(set) != r ? 2 : isBasis ? 1 : 0);
            }
        }
    }

    /** Sets of R columns, of which some are not there. */
    @Says(in = "Promise 9", words = NO_SIGN)
    static void sign2ForOtherColumns(Check check) {
        BasisWalk walk = Check.walkOf(0, new int[][] {{1, 1, 1}});
        walk.begin(1, 0, 2, 3);
        Check.fill(walk, 1, new int[][] {{1, 0, 0}, {0, 1, 0}});
        for (int e = 3; e < 32; e++) {
            check.due("sign of column " + e, walk.sign(0, 1 << e), 2);
            check.due("sign of columns 0 and " + e, walk.sign(1, 1 + (1 << e)), 2);
            check.due("sign of no set", walk.sign(0, -1 - (1 << e)), 2);
        }
        for (int set : new int[] {-1, -2, -8, Edges.LEAST, Edges.MOST}) {
            check.due("sign(0, " + set + ")", walk.sign(0, set), 2);
            check.due("sign(2, " + set + ")", walk.sign(2, set), 2);
        }
        check.due("sign of a column in an empty table", walk.sign(2, 1), 2);
        // A column that was there before.
        walk.begin(0, 0, 1, 2);
        walk.put(0, 0, 0, 1);
        check.due("sign of no more column 2", walk.sign(0, 4), 2);
    }

    @Says(in = "Promise 9", words = NO_SIGN)
    static void sign2NotOfField0(Check check) {
        BasisWalk walk = new BasisWalk();
        for (int prime : Edges.PRIMES) {
            walk.begin(0, prime, 1, 2);
            check.due("sign of the empty set over " + prime, walk.sign(0, 0), 2);
            walk.put(0, 0, 0, 1);
            check.due("sign of a basis over " + prime, walk.sign(0, 1), 2);
            check.due("sign of no basis over " + prime, walk.sign(0, 2), 2);
        }
    }

    @Says(in = "Promise 9", words = NO_SIGN)
    static void sign2ForNoTable(Check check) {
        BasisWalk walk = new BasisWalk();
        for (int none : Edges.NO_TABLES) {
            check.due("sign(" + none + ", 0)", walk.sign(none, 0), 2);
        }
    }

    private static final String BELOW = "The set of the columns for which circuit i (in ORDER) has the"
            + " sign -1";

    @Says(in = "Promise 10", words = BELOW)
    static void belowOfEachCircuit(Check check) {
        // The lines of a directed graph of four points: those that a round goes against.
        BasisWalk walk = Check.walkOf(0, new int[][] {
            {-1, -1, -1, 0, 0, 0}, {1, 0, 0, -1, -1, 0}, {0, 1, 0, 1, 0, -1}, {0, 0, 1, 0, 1, 1}});
        int[] circuits = {11, 21, 38, 56, 51, 45, 30};
        Edges.membersAre(check, walk, 0, CIRCUITS, circuits);
        int[] due = {2, 4, 4, 16, 34, 4, 12};
        for (int i = 0; i < due.length; i++) {
            check.due("below of circuit " + circuits[i], walk.below(0, i), due[i]);
        }
    }

    /** One row of 1: circuits are all pairs, and the greater column has -1. */
    @Says(in = "Promise 10", words = BELOW)
    static void belowInOrder(Check check) {
        int[][] row = new int[1][12];
        for (int e = 0; e < 12; e++) {
            row[0][e] = 1;
        }
        BasisWalk walk = Check.walkOf(0, row);
        int i = 0;
        for (int least = 0; least < 12; least++) {
            for (int other = least + 1; other < 12; other++) {
                check.due("below of circuit " + i, walk.below(0, i), 1 << other);
                i++;
            }
        }
    }

    @Says(in = "Promise 10", words = "(0 if it has none such);")
    static void below0WithoutSuch(Check check) {
        BasisWalk walk = Check.walkOf(0, new int[][] {{-1, 2, 0}});
        Edges.membersAre(check, walk, 0, CIRCUITS, 4, 3);
        check.due("below of a column of 0", walk.below(0, 0), 0);
        check.due("below of two that sum to 0", walk.below(0, 1), 0);
        walk.begin(0, 0, 12, 12);
        for (int i = 0; i < 12; i++) {
            check.due("below of column " + i + " of 0", walk.below(0, i), 0);
        }
    }

    private static final String NO_BELOW = "NONE when there is no circuit i, or the table is not of"
            + " field 0.";

    @Says(in = "Promise 10", words = NO_BELOW)
    static void belowNoneForNoCircuit(Check check) {
        BasisWalk walk = Check.walkOf(0, new int[][] {{1, 1, 1}});
        check.due("the last one is there", walk.below(0, 2), 4);
        for (int i : new int[] {-1, -2, -3, 3, 4, 923, 924, 4096, Edges.LEAST, Edges.MOST}) {
            check.due("below(0, " + i + ")", walk.below(0, i), NONE);
            check.due("below(1, " + i + ")", walk.below(1, i), NONE);
        }
        check.due("below(1, 0) without columns", walk.below(1, 0), NONE);
        walk.begin(2, 0, 1, 1);
        walk.put(2, 0, 0, 1);
        check.due("below(2, 0) without circuits", walk.below(2, 0), NONE);
    }

    @Says(in = "Promise 10", words = NO_BELOW)
    static void belowNoneNotOfField0(Check check) {
        BasisWalk walk = new BasisWalk();
        for (int prime : Edges.PRIMES) {
            walk.begin(0, prime, 1, 2);
            walk.put(0, 0, 0, 1);
            check.due("circuits over " + prime, walk.count(0, CIRCUITS), 1);
            check.due("below over " + prime, walk.below(0, 0), NONE);
            walk.put(0, 0, 1, -1);
            check.due("below of two over " + prime, walk.below(0, 0), NONE);
        }
    }

    @Says(in = "Promise 10", words = NO_BELOW)
    static void belowNoneForNoTable(Check check) {
        BasisWalk walk = new BasisWalk();
        for (int t = 0; t < 4; t++) {
            walk.begin(t, 0, 1, 1);
            check.due("below(" + t + ", 0)", walk.below(t, 0), 0);
        }
        for (int none : Edges.NO_TABLES) {
            check.due("below(" + none + ", 0)", walk.below(none, 0), NONE);
        }
    }
}
