/** Promise 8: tutte. */
public final class TutteTest {
    private static final Check CHECK = new Check("TutteTest");

    public static void main(String[] args) {
        ordinary();
        loopsAndBridges();
        sumsAreCounts();
        wrongCalls();
        CHECK.finish();
    }

    /** The lines of a complete graph of four points: x^3 + 3x^2 + 2x + 4xy + 2y + 3y^2 + y^3. */
    private static void ordinary() {
        BasisWalk walk = Check.walkOf(2, new int[][] {
            {1, 1, 1, 0, 0, 0}, {1, 0, 0, 1, 1, 0}, {0, 1, 0, 1, 0, 1}});
        long[][] due = new long[14][14];
        due[3][0] = 1;
        due[2][0] = 3;
        due[1][0] = 2;
        due[1][1] = 4;
        due[0][1] = 2;
        due[0][2] = 3;
        due[0][3] = 1;
        for (int i = 0; i < 14; i++) {
            for (int j = 0; j < 14; j++) {
                CHECK.due("tutte " + i + " " + j, walk.tutte(0, i, j), due[i][j]);
            }
        }
    }

    private static void loopsAndBridges() {
        BasisWalk walk = new BasisWalk();
        for (int bridges = 0; bridges <= 12; bridges++) {
            walk.begin(1, 0, 12, 12);
            for (int line = 0; line < bridges; line++) {
                walk.put(1, line, line, line + 1);
            }
            CHECK.due("x^" + bridges, walk.tutte(1, bridges, 12 - bridges), 1);
            CHECK.due("no other", walk.tutte(1, bridges == 0 ? 1 : bridges - 1, 12 - bridges), 0);
        }
        CHECK.due("of nothing", walk.tutte(0, 0, 0), 1);
        CHECK.due("of nothing, x", walk.tutte(0, 1, 0), 0);
        CHECK.due("of nothing, y", walk.tutte(0, 0, 1), 0);
    }

    /** At (1, 1) it is how many bases, at (2, 2) how many sets. */
    private static void sumsAreCounts() {
        int[][] rows = new int[5][12];
        for (int row = 0; row < 5; row++) {
            for (int column = 0; column < 12; column++) {
                rows[row][column] = (row * 7 + column * column * 3 + row * column) % 5 - 2;
            }
        }
        BasisWalk walk = Check.walkOf(0, rows);
        long atOne = 0;
        long atTwo = 0;
        for (int i = 0; i <= 12; i++) {
            for (int j = 0; j <= 12; j++) {
                long term = walk.tutte(0, i, j);
                CHECK.due("not below 0", term < 0, false);
                atOne += term;
                atTwo += term << i + j;
            }
        }
        CHECK.due("at (1, 1)", atOne, walk.count(0, 0));
        CHECK.due("at (2, 2)", atTwo, 4096);
    }

    private static void wrongCalls() {
        BasisWalk walk = Check.walkOf(0, new int[][] {{1}});
        CHECK.due("x", walk.tutte(0, 1, 0), 1);
        int[] far = {-1, 4, 13, 14, Integer.MIN_VALUE, Integer.MAX_VALUE};
        for (int bad : far) {
            CHECK.due("tutte in table " + bad, walk.tutte(bad, 0, 0), 0);
            CHECK.due("tutte of x^" + bad, walk.tutte(0, bad, 0), 0);
            CHECK.due("tutte of y^" + bad, walk.tutte(0, 0, bad), 0);
            CHECK.due("tutte of both " + bad, walk.tutte(0, bad, bad), 0);
        }
    }
}
