/** Promises 6 and 7: count and member. */
public final class MembersTest {
    private static final Check CHECK = new Check("MembersTest");

    public static void main(String[] args) {
        ordinary();
        loopsAndTwins();
        nothing();
        uniform();
        cocircuitsAreLeastRows();
        wrongCalls();
        CHECK.finish();
    }

    private static void allAre(BasisWalk walk, int t, int kind, int... due) {
        CHECK.due("count of kind " + kind, walk.count(t, kind), due.length);
        for (int i = 0; i < due.length; i++) {
            CHECK.due("member " + i + " of kind " + kind, walk.member(t, kind, i), due[i]);
        }
        CHECK.due("none behind kind " + kind, walk.member(t, kind, due.length), BasisWalk.NONE);
        CHECK.due("none before kind " + kind, walk.member(t, kind, -1), BasisWalk.NONE);
    }

    private static void ordinary() {
        BasisWalk walk = Check.walkOf(0, new int[][] {{1, 0, 2, 3}, {0, 1, -1, 4}});
        allAre(walk, 0, 0, 3, 5, 9, 6, 10, 12);
        allAre(walk, 0, 1, 7, 11, 13, 14);
        allAre(walk, 0, 2, 7, 11, 13, 14);
        allAre(walk, 0, 3, 0, 1, 2, 4, 8, 15);
    }

    private static void loopsAndTwins() {
        // Column 1 is all 0, columns 0 and 3 are multiples, column 2 is needed by every basis.
        BasisWalk walk = Check.walkOf(5, new int[][] {{1, 0, 0, 3}, {0, 5, 2, -5}});
        allAre(walk, 0, 0, 5, 12);
        allAre(walk, 0, 1, 2, 9);
        allAre(walk, 0, 2, 4, 9);
        allAre(walk, 0, 3, 2, 6, 11, 15);
    }

    private static void nothing() {
        BasisWalk walk = new BasisWalk();
        allAre(walk, 0, 0, 0);
        allAre(walk, 0, 1);
        allAre(walk, 0, 2);
        allAre(walk, 0, 3, 0);
        walk.begin(1, 2, 12, 3);
        allAre(walk, 1, 0, 0);
        allAre(walk, 1, 1, 1, 2, 4);
        allAre(walk, 1, 2);
        allAre(walk, 1, 3, 7);
    }

    /** Twelve columns of which any six are independent: the greatest counts there are. */
    private static void uniform() {
        BasisWalk walk = new BasisWalk();
        walk.begin(0, 13, 6, 12);
        for (int column = 0; column < 12; column++) {
            int power = 1;
            for (int row = 0; row < 6; row++) {
                walk.put(0, row, column, power);
                power = power * (column + 1) % 13;
            }
        }
        CHECK.due("bases", walk.count(0, 0), 924);
        CHECK.due("circuits", walk.count(0, 1), 792);
        CHECK.due("cocircuits", walk.count(0, 2), 792);
        CHECK.due("flats", walk.count(0, 3), 1 + 12 + 66 + 220 + 495 + 792 + 1);
        CHECK.due("last basis", walk.member(0, 0, 923), 4032);
        CHECK.due("last circuit", walk.member(0, 1, 791), 4064);
        CHECK.due("flat of all", walk.member(0, 3, 1586), 4095);
        for (int kind = 0; kind < 4; kind++) {
            int before = walk.member(0, kind, 0);
            for (int i = 1; i < 60; i++) {
                int after = walk.member(0, kind, i);
                CHECK.due("in ORDER", Reference.inOrder(before, after) < 0, true);
                before = after;
            }
        }
    }

    /** All rows of the space written out, over 3: those with the fewest columns are the cocircuits. */
    private static void cocircuitsAreLeastRows() {
        int[][] rows = {{1, 0, 2, 1, 0, 0}, {0, 1, 1, 2, 0, 1}, {1, 1, 0, 0, 0, 1}, {0, 0, 1, 1, 0, 2}};
        BasisWalk walk = Check.walkOf(3, rows);
        boolean[] held = new boolean[64];
        for (int mix = 0; mix < 81; mix++) {
            int[] by = {mix % 3, mix / 3 % 3, mix / 9 % 3, mix / 27};
            int set = 0;
            for (int column = 0; column < 6; column++) {
                int sum = 0;
                for (int row = 0; row < 4; row++) {
                    sum += by[row] * rows[row][column];
                }
                set += sum % 3 == 0 ? 0 : 1 << column;
            }
            held[set] = true;
        }
        boolean[] found = new boolean[64];
        int count = walk.count(0, 2);
        for (int i = 0; i < count; i++) {
            found[walk.member(0, 2, i)] = true;
        }
        for (int set = 1; set < 64; set++) {
            boolean least = held[set];
            for (int inside = 1; inside < set; inside++) {
                least &= !held[inside] || (inside & ~set) != 0;
            }
            CHECK.due("cocircuit " + set, found[set], least);
            count -= least ? 1 : 0;
        }
        CHECK.due("cocircuits more than the least rows", count, 0);
    }

    private static void wrongCalls() {
        BasisWalk walk = Check.walkOf(0, new int[][] {{1, 1}});
        int[] far = {-1, 4, 5, Integer.MIN_VALUE, Integer.MAX_VALUE};
        for (int bad : far) {
            CHECK.due("count in table " + bad, walk.count(bad, 0), BasisWalk.NONE);
            CHECK.due("count of kind " + bad, walk.count(0, bad), BasisWalk.NONE);
            CHECK.due("member in table " + bad, walk.member(bad, 0, 0), BasisWalk.NONE);
            CHECK.due("member of kind " + bad, walk.member(0, bad, 0), BasisWalk.NONE);
            CHECK.due("member " + bad, walk.member(0, 0, bad), BasisWalk.NONE);
        }
        CHECK.due("the last basis", walk.member(0, 0, 1), 2);
        CHECK.due("one more", walk.member(0, 0, 2), BasisWalk.NONE);
    }
}
