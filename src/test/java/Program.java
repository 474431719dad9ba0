/** A linear program in equations over numbers not below 0, solved exactly by the two phase simplex way. */
final class Program {
    private final Fraction[][] rows;
    private final int[] base;
    private final int variables;

    /** The least cost, or null if the equations have no solution. */
    static Fraction least(long[][] left, long[] right, long[] cost) {
        if (left.length == 0) {
            return Fraction.ZERO;
        }
        Program p = new Program(left, right, cost.length);
        Fraction[] first = new Fraction[p.variables + left.length];
        Fraction[] second = new Fraction[p.variables + left.length];
        for (int j = 0; j < first.length; j++) {
            boolean real = j < p.variables;
            first[j] = real ? Fraction.ZERO : Fraction.ONE;
            second[j] = real ? Fraction.of(cost[j]) : null;
        }
        if (p.run(first).sign() != 0) {
            return null;
        }
        p.driveOut();
        return p.run(second);
    }

    private Program(long[][] left, long[] right, int variables) {
        this.variables = variables;
        int m = left.length;
        rows = new Fraction[m][variables + m + 1];
        base = new int[m];
        for (int i = 0; i < m; i++) {
            int sign = right[i] < 0 ? -1 : 1;
            for (int j = 0; j < variables; j++) {
                rows[i][j] = Fraction.of(sign * left[i][j]);
            }
            for (int j = 0; j < m; j++) {
                rows[i][variables + j] = i == j ? Fraction.ONE : Fraction.ZERO;
            }
            rows[i][variables + m] = Fraction.of(sign * right[i]);
            base[i] = variables + i;
        }
    }

    /** Bland's rule; costs of null mark variables that may not enter, and cost nothing (they are 0). */
    private Fraction run(Fraction[] cost) {
        int last = rows[0].length - 1;
        while (true) {
            int enter = -1;
            for (int j = 0; j < last && enter < 0; j++) {
                if (cost[j] != null && reduced(cost, j).sign() < 0) {
                    enter = j;
                }
            }
            if (enter < 0) {
                return reduced(cost, last).negated();
            }
            int leave = -1;
            Fraction best = null;
            for (int i = 0; i < rows.length; i++) {
                if (rows[i][enter].sign() > 0) {
                    Fraction ratio = rows[i][last].over(rows[i][enter]);
                    int order = best == null ? -1 : ratio.compareTo(best);
                    if (order < 0 || order == 0 && base[i] < base[leave]) {
                        best = ratio;
                        leave = i;
                    }
                }
            }
            if (leave < 0) {
                throw new IllegalStateException("no bound");
            }
            pivot(leave, enter);
        }
    }

    private Fraction reduced(Fraction[] cost, int j) {
        Fraction sum = j < cost.length ? cost[j] : Fraction.ZERO;
        for (int i = 0; i < rows.length; i++) {
            if (cost[base[i]] != null) {
                sum = sum.minus(cost[base[i]].times(rows[i][j]));
            }
        }
        return sum;
    }

    private void driveOut() {
        for (int i = 0; i < rows.length; i++) {
            for (int j = 0; j < variables && base[i] >= variables; j++) {
                if (rows[i][j].sign() != 0) {
                    pivot(i, j);
                }
            }
        }
    }

    private void pivot(int row, int column) {
        Fraction by = rows[row][column];
        for (int j = 0; j < rows[row].length; j++) {
            rows[row][j] = rows[row][j].over(by);
        }
        for (int i = 0; i < rows.length; i++) {
            Fraction factor = rows[i][column];
            if (i != row && factor.sign() != 0) {
                for (int j = 0; j < rows[i].length; j++) {
                    rows[i][j] = rows[i][j].minus(factor.times(rows[row][j]));
                }
            }
        }
        base[row] = column;
    }
}
