import java.math.BigInteger;
import java.util.ArrayList;
import java.util.List;

/**
 * One table, slowly and by the words of the document: every rank by its own elimination over
 * fractions or residues, signs by determinants, circuits' signs by solving the equations.
 */
final class Reference {
    final int field;
    final int rows;
    final int columns;
    final int[][] numbers;
    private int[] ranks;
    private List<List<Integer>> kinds;
    private long[][] tutte;
    private int turn;
    private List<Integer> spanning;

    Reference(int field, int rows, int columns) {
        this.field = field;
        this.rows = rows;
        this.columns = columns;
        this.numbers = new int[rows][columns];
    }

    void put(int row, int column, int v) {
        numbers[row][column] = v;
        ranks = null;
        kinds = null;
        tutte = null;
        spanning = null;
    }

    /** A number of the field: a fraction in lowest terms, or a residue over 1. */
    private record Num(BigInteger top, BigInteger bottom) {
        boolean isZero() {
            return top.signum() == 0;
        }
    }

    private Num num(BigInteger top, BigInteger bottom) {
        if (field != 0) {
            BigInteger p = BigInteger.valueOf(field);
            return new Num(top.multiply(bottom.modInverse(p)).mod(p), BigInteger.ONE);
        }
        BigInteger g = top.gcd(bottom);
        BigInteger d = bottom.signum() < 0 ? g.negate() : g;
        return new Num(top.divide(d), bottom.divide(d));
    }

    private Num num(int v) {
        return num(BigInteger.valueOf(v), BigInteger.ONE);
    }

    private Num minus(Num a, Num b) {
        return num(a.top.multiply(b.bottom).subtract(b.top.multiply(a.bottom)),
                a.bottom.multiply(b.bottom));
    }

    private Num times(Num a, Num b) {
        return num(a.top.multiply(b.top), a.bottom.multiply(b.bottom));
    }

    private Num over(Num a, Num b) {
        return num(a.top.multiply(b.bottom), a.bottom.multiply(b.top));
    }

    private static List<Integer> list(int set) {
        List<Integer> out = new ArrayList<>();
        for (int e = 0; e < 31; e++) {
            if ((set >> e & 1) == 1) {
                out.add(e);
            }
        }
        return out;
    }

    private Num[][] part(List<Integer> whichRows, int set) {
        List<Integer> of = list(set);
        Num[][] m = new Num[whichRows.size()][of.size()];
        for (int i = 0; i < m.length; i++) {
            for (int j = 0; j < of.size(); j++) {
                m[i][j] = num(numbers[whichRows.get(i)][of.get(j)]);
            }
        }
        return m;
    }

    /** Brings m to reduced row form and answers the pivot columns. */
    private List<Integer> reduce(Num[][] m) {
        List<Integer> pivots = new ArrayList<>();
        int wide = m.length == 0 ? 0 : m[0].length;
        for (int c = 0; c < wide && pivots.size() < m.length; c++) {
            int r = pivots.size();
            int p = r;
            while (p < m.length && m[p][c].isZero()) {
                p++;
            }
            if (p == m.length) {
                continue;
            }
            Num[] swap = m[p];
            m[p] = m[r];
            m[r] = swap;
            Num lead = m[r][c];
            for (int k = 0; k < wide; k++) {
                m[r][k] = over(m[r][k], lead);
            }
            for (int i = 0; i < m.length; i++) {
                if (i != r && !m[i][c].isZero()) {
                    Num factor = m[i][c];
                    for (int k = 0; k < wide; k++) {
                        m[i][k] = minus(m[i][k], times(factor, m[r][k]));
                    }
                }
            }
            pivots.add(c);
        }
        return pivots;
    }

    private List<Integer> allRows() {
        List<Integer> out = new ArrayList<>();
        for (int r = 0; r < rows; r++) {
            out.add(r);
        }
        return out;
    }

    boolean isSet(int set) {
        return set >= 0 && set < 1 << columns;
    }

    int[] ranks() {
        if (ranks == null) {
            ranks = new int[1 << columns];
            for (int set = 0; set < ranks.length; set++) {
                ranks[set] = reduce(part(allRows(), set)).size();
            }
        }
        return ranks;
    }

    int fullRank() {
        return ranks()[(1 << columns) - 1];
    }

    private boolean independent(int set) {
        return ranks()[set] == Integer.bitCount(set);
    }

    private boolean circuit(int set) {
        if (independent(set)) {
            return false;
        }
        for (int e : list(set)) {
            if (!independent(set - (1 << e))) {
                return false;
            }
        }
        return true;
    }

    private boolean flat(int set) {
        for (int e = 0; e < columns; e++) {
            if ((set >> e & 1) == 0 && ranks()[set + (1 << e)] == ranks()[set]) {
                return false;
            }
        }
        return true;
    }

    /** Whether a row of the space, not all 0, is 0 outside the set: all of it does not fix it. */
    private boolean carries(int set) {
        return ranks()[(1 << columns) - 1 - set] < fullRank();
    }

    private boolean cocircuit(int set) {
        if (!carries(set)) {
            return false;
        }
        for (int e : list(set)) {
            if (carries(set - (1 << e))) {
                return false;
            }
        }
        return true;
    }

    static int inOrder(int a, int b) {
        if (Integer.bitCount(a) != Integer.bitCount(b)) {
            return Integer.bitCount(a) - Integer.bitCount(b);
        }
        if (a == b) {
            return 0;
        }
        int least = Integer.lowestOneBit(a ^ b);
        return (a & least) != 0 ? -1 : 1;
    }

    List<Integer> members(int kind) {
        if (kinds == null) {
            kinds = new ArrayList<>();
            for (int k = 0; k < 4; k++) {
                List<Integer> of = new ArrayList<>();
                for (int set = 0; set < 1 << columns; set++) {
                    boolean is = switch (k) {
                        case 0 -> independent(set) && Integer.bitCount(set) == fullRank();
                        case 1 -> circuit(set);
                        case 2 -> cocircuit(set);
                        default -> flat(set);
                    };
                    if (is) {
                        of.add(set);
                    }
                }
                of.sort(Reference::inOrder);
                kinds.add(of);
            }
        }
        return kinds.get(kind);
    }

    int member(int kind, int i) {
        if (kind < 0 || kind > 3 || i < 0 || i >= members(kind).size()) {
            return -1;
        }
        return members(kind).get(i);
    }

    /** Multiplies the powers of x - 1 and y - 1 out one factor at a time and adds them up. */
    long tutte(int i, int j) {
        if (tutte == null) {
            tutte = new long[13][13];
            for (int set = 0; set < 1 << columns; set++) {
                long[] x = power(fullRank() - ranks()[set]);
                long[] y = power(Integer.bitCount(set) - ranks()[set]);
                for (int a = 0; a < 13; a++) {
                    for (int b = 0; b < 13; b++) {
                        tutte[a][b] += x[a] * y[b];
                    }
                }
            }
        }
        return i < 0 || j < 0 || i > 12 || j > 12 ? 0 : tutte[i][j];
    }

    private static long[] power(int n) {
        long[] p = new long[13];
        p[0] = 1;
        for (int step = 0; step < n; step++) {
            for (int k = 12; k >= 0; k--) {
                p[k] = (k == 0 ? 0 : p[k - 1]) - p[k];
            }
        }
        return p;
    }

    /** The last rows that do, not the first: the sign must not hang on which rows are taken. */
    private List<Integer> spanningRows() {
        if (spanning == null) {
            spanning = new ArrayList<>();
            int all = (1 << columns) - 1;
            for (int r = rows - 1; r >= 0; r--) {
                spanning.add(0, r);
                if (reduce(part(spanning, all)).size() < spanning.size()) {
                    spanning.remove(0);
                }
            }
            turn = fullRank() == 0 ? 1 : detSign(members(0).get(0));
        }
        return spanning;
    }

    private int detSign(int set) {
        Num[][] m = part(spanningRows(), set);
        int sign = 1;
        for (int c = 0; c < m.length; c++) {
            int p = c;
            while (p < m.length && m[p][c].isZero()) {
                p++;
            }
            if (p == m.length) {
                return 0;
            }
            if (p != c) {
                Num[] swap = m[p];
                m[p] = m[c];
                m[c] = swap;
                sign = -sign;
            }
            sign *= m[c][c].top.signum();
            for (int i = c + 1; i < m.length; i++) {
                Num factor = over(m[i][c], m[c][c]);
                for (int k = c; k < m.length; k++) {
                    m[i][k] = minus(m[i][k], times(factor, m[c][k]));
                }
            }
        }
        return sign;
    }

    int sign(int set) {
        if (field != 0 || !isSet(set) || Integer.bitCount(set) != fullRank()) {
            return 2;
        }
        spanningRows();
        return detSign(set) * turn;
    }

    /** In reduced form all columns of a circuit but its last are pivots: the last one's number -1. */
    int below(int i) {
        int circuit = member(1, i);
        if (field != 0 || circuit == -1) {
            return -1;
        }
        Num[][] m = part(allRows(), circuit);
        reduce(m);
        List<Integer> of = list(circuit);
        int[] signs = new int[of.size()];
        int last = of.size() - 1;
        for (int k = 0; k < last; k++) {
            signs[k] = m[k][last].top.signum();
        }
        signs[last] = -1;
        int out = 0;
        for (int k = 0; k <= last; k++) {
            if (signs[k] == 0) {
                throw new IllegalStateException("a circuit with a 0");
            }
            out += signs[k] == signs[0] ? 0 : 1 << of.get(k);
        }
        return out;
    }
}
