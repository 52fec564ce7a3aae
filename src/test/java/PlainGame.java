import java.util.ArrayList;
import java.util.List;

/** The value of a game of two, for who wants much and mixes rows. */
final class PlainGame {
    private PlainGame() {
    }

    static Ratio value(long[][] table) {
        return table.length * table[0].length <= 24 ? valueByTrying(table) : valueByTurning(table);
    }

    /** By trying which of both sides are mixed. */
    static Ratio valueByTrying(long[][] table) {
        int rows = table.length, columns = table[0].length;
        for (int n = 1; n <= Math.min(rows, columns); n++) {
            for (List<Integer> r : choices(rows, n)) {
                for (List<Integer> c : choices(columns, n)) {
                    Ratio value = tryMix(table, r, c);
                    if (value != null) return value;
                }
            }
        }
        throw new IllegalStateException("a game without a value");
    }

    static List<List<Integer>> choices(int of, int n) {
        List<List<Integer>> all = new ArrayList<>();
        choose(0, of, n, new ArrayList<>(), all);
        return all;
    }

    private static void choose(int from, int of, int n, List<Integer> some, List<List<Integer>> all) {
        if (some.size() == n) {
            all.add(new ArrayList<>(some));
            return;
        }
        for (int i = from; i < of; i++) {
            some.add(i);
            choose(i + 1, of, n, some, all);
            some.remove(some.size() - 1);
        }
    }

    /** Mixes that make all the other side's choices alike; the value, if they are mixes and nobody gains. */
    private static Ratio tryMix(long[][] table, List<Integer> r, List<Integer> c) {
        int n = r.size();
        Ratio[][] forRows = new Ratio[n + 1][n + 2];
        Ratio[][] forColumns = new Ratio[n + 1][n + 2];
        for (int i = 0; i < n; i++) {
            for (int j = 0; j < n; j++) {
                forRows[j][i] = Ratio.of(table[r.get(i)][c.get(j)]);
                forColumns[i][j] = Ratio.of(table[r.get(i)][c.get(j)]);
            }
            forRows[i][n] = forColumns[i][n] = Ratio.of(-1);
            forRows[i][n + 1] = forColumns[i][n + 1] = Ratio.ZERO;
            forRows[n][i] = forColumns[n][i] = Ratio.ONE;
        }
        forRows[n][n] = forColumns[n][n] = Ratio.ZERO;
        forRows[n][n + 1] = forColumns[n][n + 1] = Ratio.ONE;
        Ratio[] x = solve(forRows), y = solve(forColumns);
        if (x == null || y == null) return null;
        for (int i = 0; i < n; i++) if (x[i].sign() < 0 || y[i].sign() < 0) return null;
        for (int j = 0; j < table[0].length; j++) {
            Ratio sum = Ratio.ZERO;
            for (int i = 0; i < n; i++) sum = sum.plus(x[i].times(Ratio.of(table[r.get(i)][j])));
            if (sum.compareTo(x[n]) < 0) return null;
        }
        for (long[] row : table) {
            Ratio sum = Ratio.ZERO;
            for (int j = 0; j < n; j++) sum = sum.plus(y[j].times(Ratio.of(row[c.get(j)])));
            if (sum.compareTo(y[n]) > 0) return null;
        }
        return x[n];
    }

    /** Unknowns of as many equations; null if they are not the only ones. */
    private static Ratio[] solve(Ratio[][] m) {
        int n = m.length;
        for (int p = 0; p < n; p++) {
            int at = p;
            while (at < n && m[at][p].sign() == 0) at++;
            if (at == n) return null;
            Ratio[] row = m[at];
            m[at] = m[p];
            m[p] = row;
            for (int i = 0; i < n; i++) {
                if (i == p || m[i][p].sign() == 0) continue;
                Ratio factor = m[i][p].by(m[p][p]);
                for (int j = p; j <= n; j++) m[i][j] = m[i][j].minus(factor.times(m[p][j]));
            }
        }
        Ratio[] x = new Ratio[n];
        for (int i = 0; i < n; i++) x[i] = m[i][n].by(m[i][i]);
        return x;
    }

    /** For large tables: the simplex way in ratios, with all columns and slacks written out. */
    static Ratio valueByTurning(long[][] table) {
        int rows = table.length, columns = table[0].length, width = columns + rows + 1;
        Ratio[][] t = new Ratio[rows + 1][width];
        int[] basis = new int[rows];
        for (int i = 0; i <= rows; i++) {
            for (int j = 0; j < width; j++) t[i][j] = Ratio.ZERO;
        }
        for (int i = 0; i < rows; i++) {
            for (int j = 0; j < columns; j++) t[i][j] = Ratio.of(table[i][j] + 7);
            t[i][columns + i] = t[i][width - 1] = Ratio.ONE;
            basis[i] = columns + i;
        }
        for (int j = 0; j < columns; j++) t[rows][j] = Ratio.of(-1);
        while (true) {
            int q = 0;
            while (q < width - 1 && t[rows][q].sign() >= 0) q++;
            if (q == width - 1) break;
            int p = -1;
            for (int i = 0; i < rows; i++) {
                if (t[i][q].sign() <= 0) continue;
                int less = p < 0 ? -1 : t[i][width - 1].by(t[i][q]).compareTo(t[p][width - 1].by(t[p][q]));
                if (less < 0 || less == 0 && basis[i] < basis[p]) p = i;
            }
            basis[p] = q;
            Ratio pivot = t[p][q];
            for (int j = 0; j < width; j++) t[p][j] = t[p][j].by(pivot);
            for (int i = 0; i <= rows; i++) {
                if (i == p || t[i][q].sign() == 0) continue;
                Ratio factor = t[i][q];
                for (int j = 0; j < width; j++) t[i][j] = t[i][j].minus(factor.times(t[p][j]));
            }
        }
        return Ratio.ONE.by(t[rows][width - 1]).minus(Ratio.of(7));
    }
}
