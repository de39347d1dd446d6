import java.util.ArrayList;
import java.util.Arrays;
import java.util.List;

/** Sentences of promises 1 to 4, and that a call that is refused changes nothing. */
final class TableSentences {
    private static final int NONE = Edges.NONE;

    private TableSentences() {
    }

    @Says(in = "Promise 1", words = "Four tables without rows and columns.")
    static void newObjectHasFourEmptyTables(Check check) {
        BasisWalk walk = new BasisWalk();
        for (int t = 0; t < 4; t++) {
            check.due("columns(" + t + ")", walk.columns(t), 0);
            check.due("put in table " + t, walk.put(t, 0, 0, 0), false);
            check.due("rank of nothing", walk.rank(t, 0), 0);
            check.due("rank of a column", walk.rank(t, 1), NONE);
            Edges.membersAre(check, walk, t, 0, 0);
            Edges.membersAre(check, walk, t, 1);
            Edges.membersAre(check, walk, t, 2);
            Edges.membersAre(check, walk, t, 3, 0);
            check.due("tutte of nothing", walk.tutte(t, 0, 0), 1);
            check.due("sign of nothing", walk.sign(t, 0), 1);
            check.due("below of nothing", walk.below(t, 0), NONE);
        }
        check.due("columns(4)", walk.columns(4), NONE);
    }

    @Says(in = "Promise 1", words = "Four tables without rows and columns.")
    static void newObjectKnowsNothingOfOthers(Check check) {
        BasisWalk other = Check.walkOf(7, Edges.diagonal(12, 3));
        check.due("rank in another object", other.rank(0, 4095), 12);
        BasisWalk walk = new BasisWalk();
        check.due("columns in a new object", walk.columns(0), 0);
        walk.begin(0, 0, 12, 12);
        check.due("rank in a new object", walk.rank(0, 4095), 0);
        check.due("rank in the other still", other.rank(0, 4095), 12);
    }

    private static final String GETS = "A table gets a field, and rows and columns of 0.";

    @Says(in = "Promise 2", words = GETS)
    static void beginGivesNumbersOf0(Check check) {
        for (int columns = 0; columns <= 12; columns++) {
            BasisWalk walk = Check.walkOf(0, fullOf(999));
            check.due("rank before", walk.rank(0, 4095), 1);
            walk.begin(0, 0, 12 - columns, columns);
            walk.begin(0, 0, 12, 12);
            for (int e = 0; e < 12; e++) {
                check.due("rank of column " + e, walk.rank(0, 1 << e), 0);
            }
        }
    }

    private static int[][] fullOf(int v) {
        int[][] rows = new int[12][12];
        for (int[] row : rows) {
            Arrays.fill(row, v);
        }
        return rows;
    }

    @Says(in = "Promise 2", words = GETS)
    static void beginGivesAsManyRowsAndColumns(Check check) {
        BasisWalk walk = new BasisWalk();
        for (int[] size : new int[][] {{12, 12}, {0, 0}, {1, 12}, {12, 1}, {0, 12}, {12, 0}, {3, 5}}) {
            int rows = size[0];
            int columns = size[1];
            walk.begin(2, 0, rows, columns);
            check.due("columns", walk.columns(2), columns);
            check.due("put in the last place", walk.put(2, rows - 1, columns - 1, 1),
                    rows > 0 && columns > 0);
            check.due("put in a row behind", walk.put(2, rows, columns - 1, 1), false);
            check.due("put in a column behind", walk.put(2, rows - 1, columns, 1), false);
        }
    }

    @Says(in = "Promise 2", words = GETS)
    static void beginGivesTheField(Check check) {
        BasisWalk walk = new BasisWalk();
        for (int field : new int[] {5, 0, 2, 251, 0}) {
            walk.begin(1, field, 1, 1);
            check.due("sign in field " + field, walk.sign(1, 0), field == 0 ? 1 : 2);
            walk.put(1, 0, 0, field == 0 ? 251 : field);
            check.due("rank in field " + field, walk.rank(1, 1), field == 0 ? 1 : 0);
        }
    }

    @Says(in = "Promise 2", words = GETS)
    static void beginLeavesTheOtherTables(Check check) {
        for (int t = 0; t < 4; t++) {
            BasisWalk walk = new BasisWalk();
            for (int each = 0; each < 4; each++) {
                walk.begin(each, 0, 2, 2 + each);
                walk.put(each, 1, 1 + each, 1);
            }
            walk.begin(t, 3, 1, 9);
            for (int each = 0; each < 4; each++) {
                check.due("columns(" + each + ")", walk.columns(each), each == t ? 9 : 2 + each);
                check.due("rank in " + each, walk.rank(each, 2 << each), each == t ? 0 : 1);
            }
        }
    }

    @Says(in = "Promise 2", words = "Answers true;")
    static void beginAnswersTrue(Check check) {
        BasisWalk walk = new BasisWalk();
        for (int t = 0; t < 4; t++) {
            check.due("least of table " + t, walk.begin(t, 0, 0, 0), true);
            check.due("least prime of table " + t, walk.begin(t, 2, 0, 12), true);
            check.due("greatest of table " + t, walk.begin(t, 251, 12, 12), true);
            check.due("the same again", walk.begin(t, 251, 12, 12), true);
        }
    }

    private static final String NOT_BEGUN = "false when it, the field, rows or columns are not such.";

    @Says(in = "Promise 2", words = NOT_BEGUN)
    static void beginFalseForNoTable(Check check) {
        BasisWalk walk = new BasisWalk();
        for (int none : Edges.NO_TABLES) {
            check.due("begin(" + none + ", 0, 1, 1)", walk.begin(none, 0, 1, 1), false);
            check.due("begin(" + none + ", 2, 0, 0)", walk.begin(none, 2, 0, 0), false);
        }
    }

    @Says(in = "Promise 2", words = NOT_BEGUN)
    static void beginFalseForNoField(Check check) {
        BasisWalk walk = new BasisWalk();
        for (int field : new int[] {-1, 1, 4, 6, 9, 25, 49, 121, 169, 143, 221, 247, 249, 250, 252,
            253, 255, 256, 257, -2, -251, Edges.LEAST, Edges.MOST}) {
            check.due("begin(0, " + field + ", 1, 1)", walk.begin(0, field, 1, 1), false);
        }
    }

    @Says(in = "Promise 2", words = NOT_BEGUN)
    static void beginFalseForNoRows(Check check) {
        BasisWalk walk = new BasisWalk();
        for (int rows : new int[] {-1, 13, 24, -12, Edges.LEAST, Edges.MOST}) {
            check.due("begin(0, 0, " + rows + ", 1)", walk.begin(0, 0, rows, 1), false);
            check.due("begin(0, 3, " + rows + ", 0)", walk.begin(0, 3, rows, 0), false);
        }
    }

    @Says(in = "Promise 2", words = NOT_BEGUN)
    static void beginFalseForNoColumns(Check check) {
        BasisWalk walk = new BasisWalk();
        for (int columns : new int[] {-1, 13, 24, -12, Edges.LEAST, Edges.MOST}) {
            check.due("begin(0, 0, 1, " + columns + ")", walk.begin(0, 0, 1, columns), false);
            check.due("begin(0, 3, 0, " + columns + ")", walk.begin(0, 3, 0, columns), false);
        }
    }

    private static final String BECOMES = "A number of a table becomes v, -999 .. 999";

    @Says(in = "Promise 3", words = BECOMES)
    static void putTakesMinus999To999(Check check) {
        BasisWalk walk = new BasisWalk();
        walk.begin(0, 0, 2, 2);
        // Column 1 is what column 0 must be for rank 1, told by 1 and v.
        walk.put(0, 0, 0, 1);
        walk.put(0, 0, 1, 1);
        for (int v : new int[] {-999, -998, -1, 0, 1, 998, 999}) {
            check.due("put " + v, walk.put(0, 1, 0, v), true);
            check.due("put it again", walk.put(0, 1, 1, v), true);
            check.due("rank of 1 and " + v + " twice", walk.rank(0, 3), 1);
            walk.put(0, 1, 1, v < 0 ? v + 1 : v - 1);
            check.due("rank beside the next number", walk.rank(0, 3), 2);
        }
    }

    @Says(in = "Promise 3", words = BECOMES)
    static void putTakesTheLastNumberAlone(Check check) {
        BasisWalk walk = new BasisWalk();
        walk.begin(0, 0, 1, 2);
        check.due("sign without numbers", walk.sign(0, 0), 1);
        walk.put(0, 0, 0, 5);
        walk.put(0, 0, 1, 5);
        check.due("sign of 5 beside 5", walk.sign(0, 2), 1);
        walk.put(0, 0, 1, -5);
        check.due("sign of -5 beside 5", walk.sign(0, 2), -1);
        walk.put(0, 0, 0, 0);
        check.due("sign of -5 beside 0", walk.sign(0, 2), 1);
        walk.put(0, 0, 1, 0);
        check.due("rank of 0 and 0", walk.rank(0, 3), 0);
    }

    @Says(in = "Promise 3", words = BECOMES)
    static void putChangesOnlyThatNumber(Check check) {
        BasisWalk walk = new BasisWalk();
        for (int corner = 0; corner < 4; corner++) {
            int row = corner / 2 * 11;
            int column = corner % 2 * 11;
            walk.begin(3, 0, 12, 12);
            walk.put(3, row, column, 1);
            check.due("rank of its column", walk.rank(3, 1 << column), 1);
            check.due("rank of the others", walk.rank(3, 4095 - (1 << column)), 0);
            // A second number in the same row is a multiple, in another row it is not.
            walk.put(3, row, 5, 1);
            check.due("rank with one in its row", walk.rank(3, 4095), 1);
            walk.put(3, 6, 6, 1);
            check.due("rank with one in another", walk.rank(3, 4095), 2);
            check.due("columns of another table", walk.columns(2), 0);
        }
    }

    private static final String RESIDUE = "(of a prime field: its residue, also for v below 0).";

    @Says(in = "Promise 3", words = RESIDUE)
    static void putTakesResidues(Check check) {
        for (int v : new int[] {999, 998, 502, 251, 250, 1}) {
            residueIs(check, v);
        }
    }

    @Says(in = "Promise 3", words = RESIDUE)
    static void putTakesResiduesBelow0(Check check) {
        for (int v : new int[] {-999, -998, -502, -251, -250, -1}) {
            residueIs(check, v);
        }
    }

    /** Columns 1, v and 1, residue are the same; one more than the residue is another. */
    private static void residueIs(Check check, int v) {
        BasisWalk walk = new BasisWalk();
        for (int prime : Edges.PRIMES) {
            int residue = 0;
            while ((v - residue) % prime != 0) {
                residue++;
            }
            walk.begin(0, prime, 2, 2);
            walk.put(0, 0, 0, 1);
            walk.put(0, 0, 1, 1);
            check.due("put " + v + " over " + prime, walk.put(0, 1, 0, v), true);
            walk.put(0, 1, 1, residue);
            check.due("residue of " + v + " over " + prime, walk.rank(0, 3), 1);
            walk.put(0, 1, 1, residue + 1);
            check.due("no other residue of " + v + " over " + prime, walk.rank(0, 3), 2);
        }
    }

    @Says(in = "Promise 3", words = "Answers true;")
    static void putAnswersTrue(Check check) {
        BasisWalk walk = new BasisWalk();
        for (int t = 0; t < 4; t++) {
            walk.begin(t, t == 0 ? 0 : 251, 12, 12);
            check.due("first place", walk.put(t, 0, 0, 0), true);
            check.due("last place", walk.put(t, 11, 11, 999), true);
            check.due("the same again", walk.put(t, 11, 11, 999), true);
            check.due("other corners", walk.put(t, 0, 11, -999) && walk.put(t, 11, 0, 252), true);
        }
    }

    private static final String NOT_PUT = "false when it is not such, or there is none.";

    @Says(in = "Promise 3", words = NOT_PUT)
    static void putFalseForNoSuchNumber(Check check) {
        BasisWalk walk = new BasisWalk();
        walk.begin(0, 0, 1, 1);
        walk.begin(1, 2, 1, 1);
        walk.begin(2, 251, 1, 1);
        for (int v : new int[] {1000, -1000, 1001, 65537, Edges.LEAST, Edges.LEAST + 1, Edges.MOST}) {
            for (int t = 0; t < 3; t++) {
                check.due("put(" + t + ", 0, 0, " + v + ")", walk.put(t, 0, 0, v), false);
                check.due("rank after it", walk.rank(t, 1), 0);
            }
        }
    }

    /** Also places that would be another's, were rows laid end to end. */
    @Says(in = "Promise 3", words = NOT_PUT)
    static void putFalseForNoPlace(Check check) {
        BasisWalk walk = new BasisWalk();
        walk.begin(0, 0, 3, 5);
        int[] far = {-1, -5, -12, 12, 256, Edges.LEAST, Edges.MOST};
        for (int none : far) {
            check.due("put in row " + none, walk.put(0, none, 0, 1), false);
            check.due("put in column " + none, walk.put(0, 0, none, 1), false);
            check.due("put in column " + none + " of row 1", walk.put(0, 1, none, 1), false);
        }
        check.due("put in row 3 of 3", walk.put(0, 3, 0, 1), false);
        check.due("put in column 5 of 5", walk.put(0, 0, 5, 1), false);
        check.due("put in row 4", walk.put(0, 4, 2, 1), false);
        check.due("rank after these", walk.rank(0, 31), 0);
    }

    @Says(in = "Promise 3", words = NOT_PUT)
    static void putFalseInTablesWithoutPlaces(Check check) {
        BasisWalk walk = new BasisWalk();
        walk.begin(1, 0, 0, 12);
        walk.begin(2, 0, 12, 0);
        for (int t = 0; t < 3; t++) {
            for (int line = 0; line < 12; line++) {
                check.due("put in table " + t, walk.put(t, line, line, 1), false);
            }
        }
        for (int none : Edges.NO_TABLES) {
            check.due("put in table " + none, walk.put(none, 0, 0, 1), false);
        }
    }

    @Says(in = "Promise 4", words = "N;")
    static void columnsIsN(Check check) {
        BasisWalk walk = new BasisWalk();
        for (int n = 0; n <= 12; n++) {
            walk.begin(n % 4, n % 2 == 0 ? 0 : 2, 12 - n, n);
            check.due("columns of " + n, walk.columns(n % 4), n);
        }
        check.due("columns of table 0 still", walk.columns(0), 12);
        check.due("columns of table 3 still", walk.columns(3), 11);
    }

    @Says(in = "Promise 4", words = "NONE when there is no such table.")
    static void columnsNoneForNoTable(Check check) {
        BasisWalk walk = new BasisWalk();
        for (int none : Edges.NO_TABLES) {
            check.due("columns(" + none + ")", walk.columns(none), NONE);
        }
    }

    private static final String REFUSED = "A call that is refused changes nothing.";

    private static final int REFUSALS = 22;

    /** A call that is refused; another one for each number. */
    private static void refused(BasisWalk walk, int which) {
        switch (which) {
            case 0 -> walk.begin(-1, 2, 1, 1);
            case 1 -> walk.begin(4, 2, 1, 1);
            case 2 -> walk.begin(0, 1, 1, 1);
            case 3 -> walk.begin(0, 4, 3, 3);
            case 4 -> walk.begin(1, 257, 2, 3);
            case 5 -> walk.begin(0, 0, 13, 3);
            case 6 -> walk.begin(0, 2, -1, 3);
            case 7 -> walk.begin(0, 0, 2, 13);
            case 8 -> walk.begin(0, 5, 2, -1);
            case 9 -> walk.put(-1, 0, 0, 9);
            case 10 -> walk.put(4, 0, 0, 9);
            case 11 -> walk.put(0, 2, 0, 9);
            case 12 -> walk.put(0, -1, 0, 9);
            case 13 -> walk.put(0, 0, 3, 9);
            case 14 -> walk.put(0, 1, -1, 9);
            case 15 -> walk.put(0, 0, 0, 1000);
            case 16 -> walk.put(1, 1, 1, -1000);
            case 17 -> walk.rank(0, 8);
            case 18 -> walk.count(0, 4);
            case 19 -> walk.member(0, 1, 9);
            case 20 -> walk.sign(0, 15);
            default -> walk.below(1, 0);
        }
    }

    @Says(in = "Terms", words = REFUSED)
    static void refusedCallsChangeNothing(Check check) {
        List<Long> due = answers(twoTables());
        for (int which = 0; which < REFUSALS; which++) {
            BasisWalk walk = twoTables();
            refused(walk, which);
            check.due("all answers after refusal " + which, answers(walk).equals(due), true);
        }
    }

    /** The tables have been asked about before, so that what is known of them may be kept. */
    @Says(in = "Terms", words = REFUSED)
    static void refusedCallsChangeNothingKnown(Check check) {
        List<Long> due = answers(twoTables());
        for (int which = 0; which < REFUSALS; which++) {
            BasisWalk walk = twoTables();
            walk.count(0, 3);
            walk.count(1, 3);
            refused(walk, which);
            check.due("all answers after refusal " + which, answers(walk).equals(due), true);
        }
    }

    /** The numbers are as they were: what is put later stands beside them. */
    @Says(in = "Terms", words = REFUSED)
    static void refusedCallsChangeNoNumber(Check check) {
        for (int which = 0; which < REFUSALS; which++) {
            BasisWalk walk = twoTables();
            refused(walk, which);
            walk.put(0, 1, 2, 7);
            walk.put(1, 0, 0, 3);
            BasisWalk other = twoTables();
            other.put(0, 1, 2, 7);
            other.put(1, 0, 0, 3);
            check.due("all answers after refusal " + which + " and more",
                    answers(walk).equals(answers(other)), true);
        }
    }

    private static BasisWalk twoTables() {
        BasisWalk walk = Check.walkOf(0, new int[][] {{1, 2, -3}, {4, -5, 6}});
        walk.begin(1, 5, 2, 3);
        Check.fill(walk, 1, new int[][] {{1, 2, 3}, {2, 4, 0}});
        return walk;
    }

    private static List<Long> answers(BasisWalk walk) {
        List<Long> all = new ArrayList<>();
        for (int t = 0; t < 4; t++) {
            all.add((long) walk.columns(t));
            for (int set = 0; set < 8; set++) {
                all.add((long) walk.rank(t, set));
                all.add((long) walk.sign(t, set));
            }
            for (int kind = 0; kind < 4; kind++) {
                all.add((long) walk.count(t, kind));
                for (int i = 0; i < 5; i++) {
                    all.add((long) walk.member(t, kind, i));
                }
            }
            for (int i = 0; i < 3; i++) {
                all.add((long) walk.below(t, i));
                for (int j = 0; j < 3; j++) {
                    all.add(walk.tutte(t, i, j));
                }
            }
        }
        return all;
    }
}
