import java.util.Random;

/** Every promise, on runs of calls that a fixed seed draws, against the slow reference. */
public final class ReferenceTest {
    private static final Check CHECK = new Check("ReferenceTest");
    private static final int[] FIELDS = {0, 0, 0, 0, 2, 3, 5, 13, 251};

    private final Random random;
    private BasisWalk walk = new BasisWalk();
    private final Reference[] tables = new Reference[4];

    private ReferenceTest(long seed) {
        random = new Random(seed);
        for (int t = 0; t < 4; t++) {
            tables[t] = new Reference(0, 0, 0);
        }
    }

    public static void main(String[] args) {
        for (int seed = 0; seed < 120; seed++) {
            new ReferenceTest(seed).anyCalls();
        }
        for (int seed = 0; seed < 250; seed++) {
            new ReferenceTest(1000 + seed).allAnswers(1 + seed % 8);
        }
        for (int seed = 0; seed < 8; seed++) {
            new ReferenceTest(2000 + seed).allAnswers(12);
        }
        CHECK.finish();
    }

    private int below(int n) {
        return random.nextInt(n);
    }

    /** Mostly what is such, now and then what is just, or far, beside it. */
    private int near(int n) {
        int luck = below(40);
        if (luck == 0) {
            return -1 - below(3);
        }
        if (luck == 1) {
            return n + below(3);
        }
        if (luck == 2) {
            return below(2) == 0 ? Integer.MIN_VALUE : Integer.MAX_VALUE;
        }
        return below(Math.max(n, 1));
    }

    private void anyCalls() {
        for (int call = 0; call < 500; call++) {
            int t = near(4);
            Reference table = t < 0 || t > 3 ? null : tables[t];
            int what = below(14);
            if (what == 0) {
                begin(t, table);
            } else if (what < 6) {
                put(t, table);
            } else {
                ask(what, t, table);
            }
        }
    }

    private void begin(int t, Reference table) {
        int field = below(12) == 0 ? below(300) - 10 : FIELDS[below(FIELDS.length)];
        int rows = near(6);
        int columns = near(7);
        boolean such = table != null && rows >= 0 && rows <= 12 && columns >= 0 && columns <= 12
                && (field == 0 || field >= 2 && field <= 251 && isPrime(field));
        CHECK.due("begin", walk.begin(t, field, rows, columns), such);
        if (such) {
            tables[t] = new Reference(field, rows, columns);
        }
    }

    private static boolean isPrime(int n) {
        for (int d = 2; d < n; d++) {
            if (n % d == 0) {
                return false;
            }
        }
        return true;
    }

    private void put(int t, Reference table) {
        int row = near(table == null ? 3 : table.rows);
        int column = near(table == null ? 3 : table.columns);
        int v = below(3) == 0 ? below(2101) - 1050 : below(5) - 2;
        boolean such = table != null && row >= 0 && row < table.rows && column >= 0
                && column < table.columns && v >= -999 && v <= 999;
        CHECK.due("put", walk.put(t, row, column, v), such);
        if (such) {
            table.put(row, column, v);
        }
    }

    private void ask(int what, int t, Reference table) {
        int set = near(table == null ? 3 : 1 << table.columns);
        int kind = near(4);
        boolean isKind = kind >= 0 && kind < 4;
        int many = table == null || !isKind ? 3 : table.members(kind).size();
        int i = near(many);
        switch (what) {
            case 6 -> CHECK.due("columns", walk.columns(t), table == null ? -1 : table.columns);
            case 7 -> CHECK.due("rank", walk.rank(t, set),
                    table == null || !table.isSet(set) ? -1 : table.ranks()[set]);
            case 8 -> CHECK.due("count", walk.count(t, kind), table == null || !isKind ? -1 : many);
            case 9 -> CHECK.due("member", walk.member(t, kind, i),
                    table == null ? -1 : table.member(kind, i));
            case 10 -> {
                int x = near(5);
                int y = near(5);
                CHECK.due("tutte", walk.tutte(t, x, y), table == null ? 0 : table.tutte(x, y));
            }
            case 11 -> CHECK.due("sign", walk.sign(t, set), table == null ? 2 : table.sign(set));
            case 12 -> {
                int basis = table == null ? 0 : table.member(0, below(table.members(0).size()));
                CHECK.due("sign of a basis", walk.sign(t, basis), table == null ? 2 : table.sign(basis));
            }
            default -> {
                int at = near(table == null ? 3 : table.members(1).size());
                CHECK.due("below", walk.below(t, at), table == null ? -1 : table.below(at));
            }
        }
    }

    /** One table of so many columns, whole; some of its rows and columns come of others. */
    private void allAnswers(int columns) {
        int field = FIELDS[below(FIELDS.length)];
        int rows = 1 + below(columns == 12 ? 12 : columns + 2);
        Reference table = new Reference(field, rows, columns);
        tables[0] = table;
        int most = new int[] {1, 2, 9, 999}[below(4)];
        draw(table, most);
        walk.begin(0, field, rows, columns);
        Check.fill(walk, 0, table.numbers);
        int asked = rows * columns;
        for (int set = 0; set < 1 << columns; set++) {
            CHECK.due("rank " + set, walk.rank(0, set), table.ranks()[set]);
            CHECK.due("sign " + set, walk.sign(0, set), table.sign(set));
            asked = anew(asked + 2, table);
        }
        for (int kind = 0; kind < 4; kind++) {
            CHECK.due("count " + kind, walk.count(0, kind), table.members(kind).size());
            for (int i = 0; i <= table.members(kind).size(); i++) {
                CHECK.due("member " + kind + " " + i, walk.member(0, kind, i), table.member(kind, i));
                asked = anew(asked + 1, table);
            }
        }
        for (int i = 0; i <= table.members(1).size(); i++) {
            CHECK.due("below " + i, walk.below(0, i), table.below(i));
            asked = anew(asked + 1, table);
        }
        for (int i = 0; i <= 12; i++) {
            for (int j = 0; j <= 12; j++) {
                CHECK.due("tutte " + i + " " + j, walk.tutte(0, i, j), table.tutte(i, j));
                asked = anew(asked + 1, table);
            }
        }
    }

    /** Nothing is promised after 512 calls, so a new object goes on before. */
    private int anew(int asked, Reference table) {
        if (asked < 500) {
            return asked;
        }
        walk = new BasisWalk();
        walk.begin(0, table.field, table.rows, table.columns);
        Check.fill(walk, 0, table.numbers);
        return table.rows * table.columns + 1;
    }

    private void draw(Reference table, int most) {
        for (int row = 0; row < table.rows; row++) {
            int like = row > 0 && below(3) == 0 ? below(row) : row;
            for (int column = 0; column < table.columns; column++) {
                table.put(row, column, like < row ? -table.numbers[like][column]
                        : below(2 * most + 1) - most);
            }
        }
        for (int column = 1; column < table.columns; column++) {
            if (below(4) == 0) {
                int like = below(column);
                int by = below(3) - 1;
                for (int row = 0; row < table.rows; row++) {
                    table.put(row, column, by * table.numbers[row][like]);
                }
            }
        }
    }
}
