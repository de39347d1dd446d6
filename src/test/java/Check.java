/** Counts and prints the answers that are not as due; a test ends with finish(). */
final class Check {
    private final String test;
    private int asked = 0;
    private int wrong = 0;

    Check(String test) {
        this.test = test;
    }

    void due(String call, long got, long want) {
        asked++;
        if (got != want) {
            wrong++;
            System.out.println(test + ": " + call + " answered " + got + ", due is " + want);
        }
    }

    void due(String call, boolean got, boolean want) {
        due(call, got ? 1 : 0, want ? 1 : 0);
    }

    /** A test that has asked nothing has shown nothing. */
    boolean isAsDue() {
        return wrong == 0 && asked != 0;
    }

    void finish() {
        System.out.println(test + ": " + (asked - wrong) + " answers of " + asked + " are as due");
        if (!isAsDue()) {
            System.exit(1);
        }
    }

    /** Puts whole rows into a table that has been begun with at least as many. */
    static void fill(BasisWalk walk, int t, int[][] rows) {
        for (int row = 0; row < rows.length; row++) {
            for (int column = 0; column < rows[row].length; column++) {
                if (!walk.put(t, row, column, rows[row][column])) {
                    throw new IllegalStateException("a put was refused");
                }
            }
        }
    }

    static BasisWalk walkOf(int field, int[][] rows) {
        BasisWalk walk = new BasisWalk();
        if (!walk.begin(0, field, rows.length, rows.length == 0 ? 0 : rows[0].length)) {
            throw new IllegalStateException("a begin was refused");
        }
        fill(walk, 0, rows);
        return walk;
    }
}
