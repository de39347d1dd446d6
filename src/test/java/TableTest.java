/** Promises 1 to 4: a new object, begin, put, columns. */
public final class TableTest {
    private static final Check CHECK = new Check("TableTest");

    public static void main(String[] args) {
        newObject();
        objectsAreApart();
        beginTakesWhatIsSuch();
        beginRefusesWhatIsNot();
        beginClears();
        putTakesWhatIsSuch();
        putRefusesWhatIsNot();
        putTakesResidues();
        putIsSeenAfterAnswers();
        refusedChangesNothing();
        columnsAnswers();
        tablesAreApart();
        CHECK.finish();
    }

    /** Promise 1. */
    private static void newObject() {
        BasisWalk walk = new BasisWalk();
        for (int t = 0; t < 4; t++) {
            CHECK.due("new columns", walk.columns(t), 0);
            CHECK.due("new rank", walk.rank(t, 0), 0);
            CHECK.due("new rank of a column", walk.rank(t, 1), BasisWalk.NONE);
            CHECK.due("new bases", walk.count(t, 0), 1);
            CHECK.due("new circuits", walk.count(t, 1), 0);
            CHECK.due("new cocircuits", walk.count(t, 2), 0);
            CHECK.due("new flats", walk.count(t, 3), 1);
            CHECK.due("new basis", walk.member(t, 0, 0), 0);
            CHECK.due("new flat", walk.member(t, 3, 0), 0);
            CHECK.due("new tutte", walk.tutte(t, 0, 0), 1);
            // The field is 0 at first, else the answer would be 2.
            CHECK.due("new sign", walk.sign(t, 0), 1);
            CHECK.due("new below", walk.below(t, 0), BasisWalk.NONE);
            CHECK.due("new put", walk.put(t, 0, 0, 1), false);
        }
    }

    private static void objectsAreApart() {
        BasisWalk one = new BasisWalk();
        BasisWalk two = new BasisWalk();
        one.begin(0, 0, 1, 3);
        CHECK.due("another object's columns", two.columns(0), 0);
        one.put(0, 0, 0, 1);
        two.begin(0, 0, 1, 3);
        CHECK.due("another object's rank", two.rank(0, 7), 0);
        CHECK.due("its own rank", one.rank(0, 7), 1);
    }

    /** Promise 2. */
    private static void beginTakesWhatIsSuch() {
        BasisWalk walk = new BasisWalk();
        for (int field = -3; field <= 300; field++) {
            boolean such = field == 0 || field <= 251 && isPrime(field);
            CHECK.due("begin field " + field, walk.begin(1, field, 1, 1), such);
        }
        for (int lines = 0; lines <= 12; lines++) {
            CHECK.due("begin rows", walk.begin(0, 0, lines, 0), true);
            CHECK.due("begin columns", walk.begin(3, 2, 0, lines), true);
            CHECK.due("columns begun", walk.columns(3), lines);
        }
        CHECK.due("the greatest", walk.begin(2, 251, 12, 12), true);
    }

    private static boolean isPrime(int n) {
        int divisors = 0;
        for (int d = 1; d <= n; d++) {
            divisors += n % d == 0 ? 1 : 0;
        }
        return divisors == 2;
    }

    private static void beginRefusesWhatIsNot() {
        BasisWalk walk = new BasisWalk();
        int[] far = {-1, 13, Integer.MIN_VALUE, Integer.MAX_VALUE, -12, 1 << 16};
        for (int bad : far) {
            CHECK.due("begin rows " + bad, walk.begin(0, 0, bad, 1), false);
            CHECK.due("begin columns " + bad, walk.begin(0, 0, 1, bad), false);
        }
        int[] tables = {-1, 4, Integer.MIN_VALUE, Integer.MAX_VALUE};
        for (int bad : tables) {
            CHECK.due("begin table " + bad, walk.begin(bad, 0, 1, 1), false);
        }
        int[] fields = {-1, 1, 4, 9, 15, 25, 49, 121, 169, 221, 247, 249, 253, 257, -2, -7,
            Integer.MIN_VALUE, Integer.MAX_VALUE};
        for (int bad : fields) {
            CHECK.due("begin field " + bad, walk.begin(0, bad, 1, 1), false);
        }
        CHECK.due("columns after refusals", walk.columns(0), 0);
    }

    private static void beginClears() {
        BasisWalk walk = Check.walkOf(0, new int[][] {{1, 2}, {3, 4}});
        CHECK.due("rank before", walk.rank(0, 3), 2);
        walk.begin(0, 0, 2, 2);
        CHECK.due("rank begun anew", walk.rank(0, 3), 0);
        CHECK.due("loops begun anew", walk.count(0, 1), 2);
        Check.fill(walk, 0, new int[][] {{1, 2}, {3, 4}});
        walk.begin(0, 0, 1, 1);
        walk.begin(0, 0, 2, 2);
        CHECK.due("rank after less and more", walk.rank(0, 3), 0);
        walk.begin(0, 3, 1, 2);
        walk.put(0, 0, 0, 3);
        CHECK.due("the new field counts", walk.rank(0, 1), 0);
        CHECK.due("no sign in it", walk.sign(0, 0), 2);
        walk.begin(0, 0, 1, 2);
        walk.put(0, 0, 0, 3);
        CHECK.due("and the next", walk.rank(0, 1), 1);
    }

    /** Promise 3. */
    private static void putTakesWhatIsSuch() {
        BasisWalk walk = new BasisWalk();
        walk.begin(0, 0, 12, 12);
        CHECK.due("put 999", walk.put(0, 11, 11, 999), true);
        CHECK.due("rank 999", walk.rank(0, 1 << 11), 1);
        CHECK.due("put -999", walk.put(0, 0, 0, -999), true);
        CHECK.due("rank -999", walk.rank(0, 1), 1);
        CHECK.due("put 0", walk.put(0, 0, 0, 0), true);
        CHECK.due("rank 0", walk.rank(0, 1), 0);
        CHECK.due("rank of all", walk.rank(0, 4095), 1);
    }

    private static void putRefusesWhatIsNot() {
        BasisWalk walk = new BasisWalk();
        walk.begin(0, 0, 2, 3);
        walk.begin(1, 5, 3, 2);
        int[] numbers = {1000, -1000, Integer.MIN_VALUE, Integer.MAX_VALUE};
        for (int bad : numbers) {
            CHECK.due("put " + bad, walk.put(0, 0, 0, bad), false);
            CHECK.due("put a residue " + bad, walk.put(1, 0, 0, bad), false);
        }
        int[] places = {-1, 12, Integer.MIN_VALUE, Integer.MAX_VALUE};
        for (int bad : places) {
            CHECK.due("put row " + bad, walk.put(0, bad, 0, 1), false);
            CHECK.due("put column " + bad, walk.put(0, 0, bad, 1), false);
            CHECK.due("put table " + bad, walk.put(bad, 0, 0, 1), false);
        }
        CHECK.due("put table 4", walk.put(4, 0, 0, 1), false);
        CHECK.due("put row 2 of 2", walk.put(0, 2, 0, 1), false);
        CHECK.due("put column 3 of 3", walk.put(0, 0, 3, 1), false);
        CHECK.due("put row 2 of 3", walk.put(1, 2, 0, 1), true);
        CHECK.due("put column 2 of 2", walk.put(1, 0, 2, 1), false);
        CHECK.due("rank after refusals", walk.rank(0, 7), 0);
    }

    private static void putTakesResidues() {
        BasisWalk walk = new BasisWalk();
        walk.begin(0, 7, 2, 2);
        Check.fill(walk, 0, new int[][] {{1, -1}, {6, 1}});
        // 1 * 1 - (-1) * 6 is 7, which is 0 here.
        CHECK.due("rank with residues", walk.rank(0, 3), 1);
        CHECK.due("put 700", walk.put(0, 0, 0, 700), true);
        CHECK.due("rank of 700", walk.rank(0, 1), 1);
        CHECK.due("put -14", walk.put(0, 1, 0, -14), true);
        CHECK.due("rank of 700 and -14", walk.rank(0, 1), 0);
        CHECK.due("put -999", walk.put(0, 1, 0, -999), true);
        CHECK.due("rank of -999", walk.rank(0, 1), 1);
        walk.begin(0, 2, 1, 2);
        Check.fill(walk, 0, new int[][] {{-2, -1}});
        CHECK.due("an even one", walk.rank(0, 1), 0);
        CHECK.due("an odd one", walk.rank(0, 2), 1);
    }

    private static void putIsSeenAfterAnswers() {
        BasisWalk walk = Check.walkOf(0, new int[][] {{1, 0}, {0, 1}});
        CHECK.due("bases", walk.count(0, 0), 1);
        CHECK.due("tutte", walk.tutte(0, 2, 0), 1);
        walk.put(0, 1, 1, 0);
        CHECK.due("rank then", walk.rank(0, 3), 1);
        CHECK.due("circuits then", walk.count(0, 1), 1);
        CHECK.due("tutte then", walk.tutte(0, 1, 1), 1);
        CHECK.due("sign then", walk.sign(0, 3), 2);
        CHECK.due("below then", walk.below(0, 0), 0);
    }

    private static void refusedChangesNothing() {
        BasisWalk walk = Check.walkOf(0, new int[][] {{1, 2, 3}, {4, 5, 6}});
        for (int round = 0; round < 2; round++) {
            CHECK.due("refused field", walk.begin(0, 4, 1, 1), false);
            CHECK.due("refused rows", walk.begin(0, 2, 13, 1), false);
            CHECK.due("refused columns", walk.begin(0, 2, 1, -1), false);
            CHECK.due("refused number", walk.put(0, 0, 0, 1000), false);
            CHECK.due("refused place", walk.put(0, 0, 3, 7), false);
            CHECK.due("columns stay", walk.columns(0), 3);
            CHECK.due("bases stay", walk.count(0, 0), 3);
            CHECK.due("sign stays", walk.sign(0, 5), 1);
            CHECK.due("below stays", walk.below(0, 0), 2);
        }
    }

    /** Promise 4. */
    private static void columnsAnswers() {
        BasisWalk walk = new BasisWalk();
        walk.begin(2, 13, 0, 12);
        walk.begin(3, 0, 12, 0);
        CHECK.due("columns 12", walk.columns(2), 12);
        CHECK.due("columns 0", walk.columns(3), 0);
        int[] tables = {-1, 4, Integer.MIN_VALUE, Integer.MAX_VALUE};
        for (int bad : tables) {
            CHECK.due("columns of " + bad, walk.columns(bad), BasisWalk.NONE);
        }
    }

    private static void tablesAreApart() {
        BasisWalk walk = new BasisWalk();
        for (int t = 0; t < 4; t++) {
            walk.begin(t, t == 3 ? 2 : 0, 4, t + 3);
            for (int line = 0; line <= t; line++) {
                walk.put(t, line, line, 1);
            }
        }
        for (int round = 0; round < 2; round++) {
            for (int t = 0; t < 4; t++) {
                CHECK.due("columns of table " + t, walk.columns(t), t + 3);
                CHECK.due("rank in table " + t, walk.rank(t, (1 << (t + 3)) - 1), t + 1);
                CHECK.due("circuits in table " + t, walk.count(t, 1), 2);
                CHECK.due("flats in table " + t, walk.count(t, 3), 2 << t);
            }
        }
    }
}
