/** The greatest c.x for x at least 0 with A x at most b (none of b below 0), by Bland's rule, exactly. */
final class Simplex {
    private final Fraction[][] table;
    private final int[] basis;
    private final int rows;
    private final int columns;

    Simplex(Fraction[][] a, Fraction[] b, Fraction[] c) {
        rows = a.length;
        columns = c.length + rows;
        table = new Fraction[rows + 1][columns + 1];
        basis = new int[rows];
        for (int i = 0; i <= rows; i++) {
            for (int j = 0; j <= columns; j++) {
                table[i][j] = Fraction.ZERO;
            }
        }
        for (int i = 0; i < rows; i++) {
            System.arraycopy(a[i], 0, table[i], 0, c.length);
            table[i][c.length + i] = Fraction.of(1);
            table[i][columns] = b[i];
            basis[i] = c.length + i;
        }
        System.arraycopy(c, 0, table[rows], 0, c.length);
    }

    Fraction greatest() {
        for (int column = entering(); column >= 0; column = entering()) {
            pivot(leaving(column), column);
        }
        return Fraction.ZERO.minus(table[rows][columns]);
    }

    private int entering() {
        for (int j = 0; j < columns; j++) {
            if (table[rows][j].sign() > 0) {
                return j;
            }
        }
        return -1;
    }

    private int leaving(int column) {
        int best = -1;
        Fraction least = null;
        for (int i = 0; i < rows; i++) {
            if (table[i][column].sign() > 0) {
                Fraction ratio = table[i][columns].over(table[i][column]);
                int order = least == null ? -1 : ratio.minus(least).sign();
                if (order < 0 || order == 0 && basis[i] < basis[best]) {
                    best = i;
                    least = ratio;
                }
            }
        }
        return best;
    }

    private void pivot(int row, int column) {
        Fraction by = table[row][column];
        for (int j = 0; j <= columns; j++) {
            table[row][j] = table[row][j].over(by);
        }
        for (int i = 0; i <= rows; i++) {
            Fraction times = table[i][column];
            if (i != row && times.sign() != 0) {
                for (int j = 0; j <= columns; j++) {
                    table[i][j] = table[i][j].minus(times.times(table[row][j]));
                }
            }
        }
        basis[row] = column;
    }
}
