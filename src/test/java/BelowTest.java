/** Promise 10: below. */
public final class BelowTest {
    private static final Check CHECK = new Check("BelowTest");

    public static void main(String[] args) {
        ordinary();
        leastColumnIsAbove();
        shortCircuits();
        wrongCalls();
        CHECK.finish();
    }

    /** The lines of a directed graph of four points: those that a round goes against. */
    private static void ordinary() {
        BasisWalk walk = Check.walkOf(0, new int[][] {
            {-1, -1, -1, 0, 0, 0}, {1, 0, 0, -1, -1, 0}, {0, 1, 0, 1, 0, -1}, {0, 0, 1, 0, 1, 1}});
        int[] circuits = {11, 21, 38, 56, 51, 45, 30};
        int[] due = {2, 4, 4, 16, 34, 4, 12};
        CHECK.due("circuits", walk.count(0, 1), circuits.length);
        for (int i = 0; i < circuits.length; i++) {
            CHECK.due("circuit " + i, walk.member(0, 1, i), circuits[i]);
            CHECK.due("below " + i, walk.below(0, i), due[i]);
        }
        CHECK.due("none behind", walk.below(0, circuits.length), BasisWalk.NONE);
    }

    private static void leastColumnIsAbove() {
        BasisWalk walk = Check.walkOf(0, new int[][] {{-3, 2, 5, -7}});
        // Circuits {0,1}, {0,2}, {0,3}, {1,2}, {1,3}, {2,3}: only equal signs need one below.
        int[] due = {0, 0, 8, 4, 0, 0};
        for (int i = 0; i < due.length; i++) {
            CHECK.due("below " + i, walk.below(0, i), due[i]);
        }
    }

    /** Circuits that are much smaller than a basis, among columns that are needed. */
    private static void shortCircuits() {
        BasisWalk walk = Check.walkOf(0, new int[][] {
            {0, 0, 1, 0, 2, 0, 0}, {1, 0, 0, 0, 0, 0, 0}, {0, 0, 0, 0, 0, 1, 4}, {0, 0, 0, 9, 0, 0, 0}});
        CHECK.due("circuits", walk.count(0, 1), 3);
        CHECK.due("a column of 0", walk.member(0, 1, 0), 2);
        CHECK.due("below it", walk.below(0, 0), 0);
        CHECK.due("a pair", walk.member(0, 1, 1), 4 + 16);
        CHECK.due("below it", walk.below(0, 1), 16);
        CHECK.due("another pair", walk.member(0, 1, 2), 32 + 64);
        CHECK.due("below it", walk.below(0, 2), 64);
        walk.put(0, 2, 6, -4);
        CHECK.due("below it, turned", walk.below(0, 2), 0);
    }

    private static void wrongCalls() {
        BasisWalk walk = Check.walkOf(0, new int[][] {{1, 1}});
        CHECK.due("the circuit", walk.below(0, 0), 2);
        int[] far = {-1, 1, 2, Integer.MIN_VALUE, Integer.MAX_VALUE};
        for (int bad : far) {
            CHECK.due("below " + bad, walk.below(0, bad), BasisWalk.NONE);
        }
        int[] tables = {-1, 4, Integer.MIN_VALUE, Integer.MAX_VALUE};
        for (int bad : tables) {
            CHECK.due("below in " + bad, walk.below(bad, 0), BasisWalk.NONE);
        }
        walk.begin(1, 2, 1, 2);
        CHECK.due("circuits in field 2", walk.count(1, 1), 2);
        CHECK.due("below in field 2", walk.below(1, 0), BasisWalk.NONE);
        CHECK.due("below without circuits", walk.below(2, 0), BasisWalk.NONE);
    }
}
