import java.util.Arrays;

/** The document's words carried out by trying everything: slow, for small numbers alone. */
final class Oracle {
    /** No price of the small wholes is further from 0 than this. */
    private static final int MOST_PRICE = 12;

    int columns;
    int rows;
    final int[] low = new int[10];
    final int[] high = new int[10];
    final int[] costs = new int[10];
    final int[] kinds = new int[8];
    final int[] rights = new int[8];
    final int[][] a = new int[8][10];
    private boolean solved;
    private int[] best;
    private int[] prices;

    private static boolean in(int number, int most) {
        return -most <= number && number <= most;
    }

    private void state(boolean good) {
        if (!good) {
            throw new IllegalStateException();
        }
    }

    private void argument(boolean good) {
        if (!good) {
            throw new IllegalArgumentException();
        }
    }

    private void index(int number, int count) {
        if (number < 0 || number >= count) {
            throw new IndexOutOfBoundsException();
        }
    }

    int column(int itsLow, int itsHigh, int itsCost) {
        state(columns < 10);
        argument(in(itsLow, 1000) && in(itsHigh, 1000) && itsLow <= itsHigh && in(itsCost, 1000));
        low[columns] = itsLow;
        high[columns] = itsHigh;
        costs[columns] = itsCost;
        solved = false;
        return columns++;
    }

    int row(int kind, int right) {
        state(rows < 8);
        argument((kind == 0 || kind == 1) && in(right, 100000));
        kinds[rows] = kind;
        rights[rows] = right;
        solved = false;
        return rows++;
    }

    void term(int row, int column, int number) {
        index(row, rows);
        index(column, columns);
        argument(in(number, 100));
        a[row][column] = number;
        solved = false;
    }

    void bounds(int column, int itsLow, int itsHigh) {
        index(column, columns);
        argument(in(itsLow, 1000) && in(itsHigh, 1000) && itsLow <= itsHigh);
        low[column] = itsLow;
        high[column] = itsHigh;
        solved = false;
    }

    int cost(int column, int cost) {
        index(column, columns);
        argument(in(cost, 1000));
        int old = costs[column];
        costs[column] = cost;
        solved = false;
        return old;
    }

    int right(int row, int right) {
        index(row, rows);
        argument(in(right, 100000));
        int old = rights[row];
        rights[row] = right;
        solved = false;
        return old;
    }

    int clear() {
        int old = columns;
        columns = 0;
        rows = 0;
        for (int[] line : a) {
            Arrays.fill(line, 0);
        }
        solved = false;
        return old;
    }

    private boolean[][] joined() {
        boolean[][] joined = new boolean[rows][rows];
        for (int i = 0; i < rows; i++) {
            for (int k = 0; k < rows; k++) {
                joined[i][k] = i == k;
                for (int j = 0; j < columns; j++) {
                    joined[i][k] |= a[i][j] != 0 && a[k][j] != 0;
                }
            }
        }
        for (int round = 0; round < rows; round++) {
            for (int i = 0; i < rows; i++) {
                for (int k = 0; k < rows; k++) {
                    for (int m = 0; m < rows; m++) {
                        joined[i][k] |= joined[i][m] && joined[m][k];
                    }
                }
            }
        }
        return joined;
    }

    int part(int row) {
        index(row, rows);
        boolean[][] joined = joined();
        int least = 0;
        while (!joined[row][least]) {
            least++;
        }
        return least;
    }

    int parts() {
        int count = 0;
        for (int row = 0; row < rows; row++) {
            count += part(row) == row ? 1 : 0;
        }
        return count;
    }

    private int terms(int column) {
        int count = 0;
        for (int row = 0; row < rows; row++) {
            count += a[row][column] != 0 ? 1 : 0;
        }
        return count;
    }

    private boolean signsDo(int minus, int firstColumns) {
        for (int column = 0; column < firstColumns; column++) {
            if (terms(column) == 2) {
                int total = 0;
                for (int row = 0; row < rows; row++) {
                    total += a[row][column] * ((minus >> row & 1) == 1 ? -1 : 1);
                }
                if (total != 0) {
                    return false;
                }
            }
        }
        return true;
    }

    int flow() {
        for (int column = 0; column < columns; column++) {
            boolean odd = terms(column) > 2;
            for (int row = 0; row < rows; row++) {
                odd |= a[row][column] > 1 || a[row][column] < -1;
            }
            if (odd) {
                return column;
            }
        }
        for (int column = 0; column < columns; column++) {
            boolean found = false;
            for (int minus = 0; minus < 1 << rows; minus++) {
                found |= signsDo(minus, column + 1);
            }
            if (!found) {
                return column;
            }
        }
        return -1;
    }

    private int[] signs() {
        int leasts = 0;
        for (int row = 0; row < rows; row++) {
            leasts |= part(row) == row ? 1 << row : 0;
        }
        for (int minus = 0; minus < 1 << rows; minus++) {
            if ((minus & leasts) == 0 && signsDo(minus, columns)) {
                int[] signs = new int[rows];
                for (int row = 0; row < rows; row++) {
                    signs[row] = (minus >> row & 1) == 1 ? -1 : 1;
                }
                return signs;
            }
        }
        throw new AssertionError("no signs of a flow");
    }

    int sign(int row) {
        state(flow() == -1);
        index(row, rows);
        return signs()[row];
    }

    int intervals() {
        for (int column = 0; column < columns; column++) {
            StringBuilder text = new StringBuilder();
            for (int row = 0; row < rows; row++) {
                int number = a[row][column];
                text.append(number == 0 ? '0' : number == 1 ? '1' : 'x');
            }
            if (!text.toString().matches("0*1*0*")) {
                return column;
            }
        }
        return -1;
    }

    private boolean evenly(int set, int one) {
        for (int column = 0; column < columns; column++) {
            int total = 0;
            for (int row = 0; row < rows; row++) {
                if ((set >> row & 1) == 1) {
                    total += (one >> row & 1) == 1 ? a[row][column] : -a[row][column];
                }
            }
            if (total < -1 || total > 1) {
                return false;
            }
        }
        return true;
    }

    int nature() {
        for (int set = 0; set < 1 << rows; set++) {
            boolean found = false;
            for (int one = 0; one <= set; one++) {
                found |= (one & ~set) == 0 && evenly(set, one);
            }
            if (!found) {
                return set;
            }
        }
        return -1;
    }

    boolean knapsack() {
        boolean is = rows == 1 && kinds[0] == 0 && rights[0] >= 0 && rights[0] <= 300;
        for (int column = 0; column < columns; column++) {
            is = is && a[0][column] > 0 && low[column] == 0;
        }
        return is;
    }

    boolean matching() {
        boolean is = flow() == -1;
        for (int column = 0; column < columns; column++) {
            is &= low[column] == 0 && high[column] == 1;
            for (int row = 0; row < rows; row++) {
                is &= a[row][column] == 0 || a[row][column] == 1;
            }
        }
        for (int row = 0; row < rows; row++) {
            is &= rights[row] == 1;
        }
        return is;
    }

    boolean way() {
        if (flow() != -1) {
            return false;
        }
        boolean is = true;
        for (int column = 0; column < columns; column++) {
            is &= terms(column) == 2 && low[column] == 0 && high[column] >= 1 && costs[column] >= 0;
        }
        int ones = 0;
        int minusOnes = 0;
        int others = 0;
        int[] ends = new int[2];
        int[] signs = signs();
        for (int row = 0; row < rows; row++) {
            is &= kinds[row] == 1;
            int number = rights[row] * signs[row];
            if (number == 1) {
                ones++;
                ends[0] = part(row);
            } else if (number == -1) {
                minusOnes++;
                ends[1] = part(row);
            } else if (number != 0) {
                others++;
            }
        }
        return is && ones == 1 && minusOnes == 1 && others == 0 && ends[0] == ends[1];
    }

    private int sumAt(int row, int[] point) {
        int total = 0;
        for (int column = 0; column < columns; column++) {
            total += a[row][column] * point[column];
        }
        return total;
    }

    private boolean fits(int[] point) {
        for (int row = 0; row < rows; row++) {
            int sum = sumAt(row, point);
            if (kinds[row] == 0 ? sum > rights[row] : sum != rights[row]) {
                return false;
            }
        }
        return true;
    }

    private int valueAt(int[] point) {
        int total = 0;
        for (int column = 0; column < columns; column++) {
            total += costs[column] * point[column];
        }
        return total;
    }

    private void tryPoints(int[] point, int column) {
        if (column == columns) {
            if (fits(point) && (best == null || valueAt(point) < valueAt(best))) {
                best = point.clone();
            }
            return;
        }
        for (int number = low[column]; number <= high[column]; number++) {
            point[column] = number;
            tryPoints(point, column + 1);
        }
    }

    int solve() {
        solved = false;
        if (flow() != -1 && !knapsack()) {
            return -1;
        }
        solved = true;
        best = null;
        prices = null;
        tryPoints(new int[columns], 0);
        return best == null ? 0 : 1;
    }

    int at(int column) {
        state(solved && best != null);
        index(column, columns);
        return best[column];
    }

    int value() {
        state(solved && best != null);
        return valueAt(best);
    }

    int sum(int row) {
        state(solved && best != null);
        index(row, rows);
        return sumAt(row, best);
    }

    /** Whether the first prices may still prove: columns with later rows are not looked at yet. */
    private boolean mayProve(int[] tried, int count) {
        int row = count - 1;
        if (row >= 0 && kinds[row] == 0) {
            if (tried[row] > 0 || tried[row] != 0 && sumAt(row, best) < rights[row]) {
                return false;
            }
        }
        for (int column = 0; column < columns; column++) {
            boolean all = true;
            int d = costs[column];
            for (int k = 0; k < rows; k++) {
                all &= k < count || a[k][column] == 0;
                d -= k < count ? a[k][column] * tried[k] : 0;
            }
            if (all && (d > 0 && best[column] != low[column] || d < 0 && best[column] != high[column])) {
                return false;
            }
        }
        return true;
    }

    private boolean extend(int[] tried, int count) {
        if (!mayProve(tried, count)) {
            return false;
        }
        if (count == rows) {
            return true;
        }
        for (int far = 0; far <= MOST_PRICE; far++) {
            tried[count] = far;
            if (extend(tried, count + 1)) {
                return true;
            }
            tried[count] = -far;
            if (extend(tried, count + 1)) {
                return true;
            }
        }
        return false;
    }

    int price(int row) {
        state(solved && best != null && flow() == -1);
        index(row, rows);
        if (prices == null) {
            prices = new int[rows];
            if (!extend(prices, 0)) {
                throw new AssertionError("no prices");
            }
        }
        return prices[row];
    }

    int reduced(int column) {
        state(solved && best != null && flow() == -1);
        index(column, columns);
        int d = costs[column];
        for (int row = 0; row < rows; row++) {
            d -= a[row][column] * price(row);
        }
        return d;
    }

    private boolean proves(int set, int side) {
        int[] signs = signs();
        int right = 0;
        for (int row = 0; row < rows; row++) {
            if ((set >> row & 1) == 1) {
                if (kinds[row] == 0 && signs[row] * side != 1) {
                    return false;
                }
                right += rights[row] * signs[row] * side;
            }
        }
        int least = 0;
        for (int column = 0; column < columns; column++) {
            int number = 0;
            for (int row = 0; row < rows; row++) {
                number += (set >> row & 1) * a[row][column] * signs[row] * side;
            }
            least += Math.min(number * low[column], number * high[column]);
        }
        return least > right;
    }

    private int found(boolean wantsSide) {
        for (int set = 0; set < 1 << rows; set++) {
            for (int side = 1; side >= -1; side -= 2) {
                if (proves(set, side)) {
                    return wantsSide ? side : set;
                }
            }
        }
        throw new AssertionError("no proof");
    }

    int proof() {
        state(solved && best == null);
        return found(false);
    }

    int side() {
        state(solved && best == null);
        return found(true);
    }
}
