/** Promise 5: rank. */
public final class RankTest {
    private static final Check CHECK = new Check("RankTest");

    public static void main(String[] args) {
        ordinary();
        wrongSets();
        greatNumbers();
        closeToDependent();
        fieldsDiffer();
        CHECK.finish();
    }

    private static void ordinary() {
        BasisWalk walk = Check.walkOf(0, new int[][] {{1, 2, 0, 1}, {2, 4, 0, 1}, {3, 6, 0, 2}});
        int[] due = {0, 1, 1, 1, 0, 1, 1, 1, 1, 2, 2, 2, 1, 2, 2, 2};
        for (int set = 0; set < due.length; set++) {
            CHECK.due("rank " + set, walk.rank(0, set), due[set]);
        }
        walk.begin(1, 0, 0, 2);
        CHECK.due("rank without rows", walk.rank(1, 3), 0);
        walk.begin(1, 0, 5, 0);
        CHECK.due("rank without columns", walk.rank(1, 0), 0);
        CHECK.due("no column 0", walk.rank(1, 1), BasisWalk.NONE);
    }

    private static void wrongSets() {
        BasisWalk walk = new BasisWalk();
        walk.begin(0, 0, 1, 4);
        walk.begin(1, 0, 12, 12);
        int[] sets = {-1, 16, 17, 4096, 1 << 30, Integer.MIN_VALUE, Integer.MAX_VALUE, -16};
        for (int bad : sets) {
            CHECK.due("rank of " + bad, walk.rank(0, bad), BasisWalk.NONE);
        }
        CHECK.due("rank of 15", walk.rank(0, 15), 0);
        CHECK.due("rank of 4095", walk.rank(1, 4095), 0);
        CHECK.due("rank of 4096", walk.rank(1, 4096), BasisWalk.NONE);
        int[] tables = {-1, 4, Integer.MIN_VALUE, Integer.MAX_VALUE};
        for (int bad : tables) {
            CHECK.due("rank in " + bad, walk.rank(bad, 0), BasisWalk.NONE);
        }
    }

    /** Determinants that are 0 in 32, 64 or 128 bits, but not 0. */
    private static void greatNumbers() {
        int[][] rows = new int[12][12];
        for (int line = 0; line < 12; line++) {
            rows[line][line] = 512;
        }
        BasisWalk walk = Check.walkOf(0, rows);
        CHECK.due("rank of 2^108", walk.rank(0, 4095), 12);
        CHECK.due("rank of 2^63", walk.rank(0, 127), 7);
        CHECK.due("rank of 2^72", walk.rank(0, 255), 8);
        for (int line = 0; line < 12; line++) {
            walk.put(0, line, (line + 1) % 12, 512);
        }
        // A round of twelve is even, so the two products take each other away.
        CHECK.due("rank of a round", walk.rank(0, 4095), 11);
        walk.put(0, 11, 0, 511);
        CHECK.due("rank of a broken round", walk.rank(0, 4095), 12);
    }

    /** Two great products that differ by 1: doubles would not tell them apart from 0. */
    private static void closeToDependent() {
        int[][] rows = new int[12][12];
        for (int line = 0; line < 12; line++) {
            rows[line][line] = 1;
            if (line < 11) {
                rows[line][line + 1] = -999;
            }
        }
        BasisWalk walk = Check.walkOf(0, rows);
        CHECK.due("rank of determinant 1", walk.rank(0, 4095), 12);
        for (int line = 0; line < 11; line++) {
            walk.put(0, line, line, 999);
        }
        walk.put(0, 11, 11, 999);
        walk.put(0, 11, 0, -999);
        CHECK.due("rank of determinant 0", walk.rank(0, 4095), 11);
        CHECK.due("rank without one", walk.rank(0, 4094), 11);
    }

    private static void fieldsDiffer() {
        int[][] rows = {{1, 1, 0}, {0, 1, 1}, {1, 0, 1}};
        CHECK.due("over the rationals", Check.walkOf(0, rows).rank(0, 7), 3);
        CHECK.due("over 2", Check.walkOf(2, rows).rank(0, 7), 2);
        CHECK.due("over 3", Check.walkOf(3, rows).rank(0, 7), 3);
        int[][] wide = {{250, 1}, {1, 250}};
        CHECK.due("over 251", Check.walkOf(251, wide).rank(0, 3), 1);
        CHECK.due("over 241", Check.walkOf(241, wide).rank(0, 3), 2);
    }
}
