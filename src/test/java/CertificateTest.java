import java.util.Random;

/**
 * Flows with numbers up to the document's limits, too large to try every point: each answer is
 * checked by what proves it, and a better or earlier point is shown not to be there by bounds that
 * leave only such points, which must have no point or a worse value, proved again.
 */
public final class CertificateTest {
    private final Random random;
    private final FlowParts x = new FlowParts();
    private final int columns;
    private final int rows;
    private final int[] low = new int[10];
    private final int[] high = new int[10];
    private final int[] cost = new int[10];
    private final int[] kind = new int[8];
    private final int[] right = new int[8];
    private final int[][] a = new int[8][10];
    private final String name;

    private CertificateTest(long seed, int itsColumns, int itsRows) {
        random = new Random(seed);
        columns = itsColumns;
        rows = itsRows;
        name = "seed " + seed + ", " + itsColumns + " columns, " + itsRows + " rows: ";
    }

    private int from(int least, int most) {
        return least + random.nextInt(most - least + 1);
    }

    private void tell(int widest, int dearest) {
        int[] point = new int[columns];
        boolean near = random.nextInt(4) > 0;
        // Narrow bounds, rows in a chain, a small fault: it takes many rows to prove that no point fits.
        boolean narrow = !near && random.nextBoolean();
        for (int j = 0; j < columns; j++) {
            low[j] = from(-widest, widest);
            high[j] = from(low[j], narrow ? Math.min(low[j] + 2, widest) : widest);
            cost[j] = from(-dearest, dearest);
            point[j] = from(low[j], high[j]);
            x.column(low[j], high[j], cost[j]);
        }
        tellTerms(narrow);
        for (int i = 0; i < rows; i++) {
            int sum = 0;
            for (int j = 0; j < columns; j++) {
                sum += a[i][j] * point[j];
            }
            kind[i] = narrow && random.nextInt(3) > 0 ? 1 : from(0, 1);
            right[i] = sum + (kind[i] == 0 && !narrow ? from(0, widest / 4) : 0);
            if (!near && random.nextInt(3) == 0) {
                right[i] += (kind[i] == 0 ? -1 : from(0, 1) * 2 - 1) * from(1, narrow ? 2 : widest);
            }
            x.row(kind[i], right[i]);
        }
        for (int i = 0; i < rows; i++) {
            for (int j = 0; j < columns; j++) {
                x.term(i, j, a[i][j]);
            }
        }
    }

    private void tellTerms(boolean chained) {
        int minus = random.nextInt(256);
        for (int j = 0; j < columns && rows > 0; j++) {
            int one = chained ? j % rows : from(0, rows - 1);
            int other = random.nextInt(5) == 0 ? one : from(0, rows - 1);
            if (chained && random.nextInt(4) > 0) {
                other = (one + 1) % rows;
            }
            int b = from(0, 1) * 2 - 1;
            a[one][j] = b;
            if (other != one) {
                a[other][j] = (minus >> one & 1) == (minus >> other & 1) ? -b : b;
            }
        }
    }

    private void proveNone(int[] lows, int[] highs) {
        int set = x.proof();
        int side = x.side();
        Due.holds(name + "a set of rows", set > 0 && set < 1 << rows && (side == 1 || side == -1));
        long left = 0;
        for (int i = 0; i < rows; i++) {
            if ((set >> i & 1) == 1) {
                Due.holds(name + "sign of a row in the proof", kind[i] == 1 || x.sign(i) * side == 1);
                left -= (long) right[i] * x.sign(i) * side;
            }
        }
        for (int j = 0; j < columns; j++) {
            int total = 0;
            for (int i = 0; i < rows; i++) {
                total += (set >> i & 1) * a[i][j] * x.sign(i) * side;
            }
            left += Math.min(total * lows[j], total * highs[j]);
        }
        Due.holds(name + "the proof that no point fits", left > 0);
    }

    /** No lesser set proves it on either side, and the set itself not on side 1 if that is not the answer. */
    private void proveLeast(int[] proofs) {
        int set = x.proof();
        int side = x.side();
        proofs[Integer.bitCount(set)]++;
        int[] signs = new int[rows];
        for (int i = 0; i < rows; i++) {
            signs[i] = x.sign(i);
        }
        for (int lesser = 0; lesser < set; lesser++) {
            Due.holds(name + "set " + lesser + " proves nothing before " + set,
                    !proves(lesser, 1, signs) && !proves(lesser, -1, signs));
        }
        Due.holds(name + "side 1 comes first", side == 1 || !proves(set, 1, signs));
    }

    private boolean proves(int set, int side, int[] signs) {
        int left = 0;
        for (int i = 0; i < rows; i++) {
            boolean isIn = (set >> i & 1) == 1;
            if (isIn && kind[i] == 0 && signs[i] != side) {
                return false;
            }
            left -= isIn ? right[i] * signs[i] * side : 0;
        }
        for (int j = 0; j < columns; j++) {
            int total = 0;
            for (int i = 0; i < rows; i++) {
                total += (set >> i & 1) * a[i][j] * signs[i] * side;
            }
            left += Math.min(total * low[j], total * high[j]);
        }
        return left > 0;
    }

    private void proveBest(int[] lows, int[] highs) {
        long value = 0;
        for (int j = 0; j < columns; j++) {
            int at = x.at(j);
            int d = cost[j];
            for (int i = 0; i < rows; i++) {
                d -= a[i][j] * x.price(i);
            }
            Due.holds(name + "at(" + j + ") within bounds", lows[j] <= at && at <= highs[j]);
            Due.same(name + "reduced(" + j + ")", x.reduced(j), d);
            Due.holds(name + "D of column " + j, d == 0 || at == (d > 0 ? lows[j] : highs[j]));
            value += cost[j] * at;
        }
        Due.same(name + "value()", x.value(), value);
        for (int i = 0; i < rows; i++) {
            int sum = 0;
            for (int j = 0; j < columns; j++) {
                sum += a[i][j] * x.at(j);
            }
            Due.same(name + "sum(" + i + ")", x.sum(i), sum);
            Due.holds(name + "row " + i + " holds", kind[i] == 0 ? sum <= right[i] : sum == right[i]);
            Due.holds(name + "price(" + i + ")",
                    kind[i] == 1 || x.price(i) <= 0 && (x.price(i) == 0 || sum == right[i]));
        }
    }

    /** With the columns before it held, no less number of a column goes with the same value. */
    private void proveFirst() {
        int[] lows = low.clone();
        int[] highs = high.clone();
        int[] best = new int[columns];
        for (int j = 0; j < columns; j++) {
            best[j] = x.at(j);
        }
        int value = x.value();
        for (int j = 0; j < columns; j++) {
            if (best[j] > low[j]) {
                highs[j] = best[j] - 1;
                x.bounds(j, lows[j], highs[j]);
                if (x.solve() == 1) {
                    proveBest(lows, highs);
                    Due.holds(name + "no earlier point has the value", x.value() > value);
                } else {
                    proveNone(lows, highs);
                }
            }
            lows[j] = best[j];
            highs[j] = best[j];
            x.bounds(j, best[j], best[j]);
        }
    }

    /** A price one nearer to 0 must leave no prices: then none nearer does, as they are a span. */
    private void proveNearest() {
        int[] fixed = new int[rows];
        for (int i = 0; i < rows; i++) {
            fixed[i] = x.price(i);
            if (fixed[i] != 0) {
                int kept = fixed[i];
                fixed[i] -= Integer.signum(kept);
                Due.holds(name + "price(" + i + ") is the nearest to 0", !canPrice(fixed, i + 1));
                fixed[i] = kept;
            }
        }
    }

    /** Bellman and Ford on the limits of price times sign; the last node is the ground. */
    private boolean canPrice(int[] fixed, int count) {
        long[] level = new long[rows + 1];
        boolean changed = true;
        for (int round = 0; changed && round <= rows + 2; round++) {
            changed = false;
            for (int j = 0; j < columns; j++) {
                int up = rows;
                int down = rows;
                for (int i = 0; i < rows; i++) {
                    up = a[i][j] * x.sign(i) == 1 ? i : up;
                    down = a[i][j] * x.sign(i) == -1 ? i : down;
                }
                changed |= x.at(j) < high[j] && limit(level, down, up, cost[j]);
                changed |= x.at(j) > low[j] && limit(level, up, down, -cost[j]);
            }
            for (int i = 0; i < rows; i++) {
                int up = x.sign(i) == 1 ? i : rows;
                int down = x.sign(i) == 1 ? rows : i;
                changed |= kind[i] == 0 && limit(level, down, up, 0);
                changed |= kind[i] == 0 && x.sum(i) < right[i] && limit(level, up, down, 0);
                changed |= i < count && limit(level, rows, i, fixed[i] * x.sign(i));
                changed |= i < count && limit(level, i, rows, -fixed[i] * x.sign(i));
            }
        }
        return !changed;
    }

    private boolean limit(long[] level, int from, int to, int above) {
        if (level[to] <= level[from] + above) {
            return false;
        }
        level[to] = level[from] + above;
        return true;
    }

    private int run(int widest, int dearest, int[] proofs) {
        tell(widest, dearest);
        Due.same(name + "flow()", x.flow(), FlowParts.NONE);
        Due.same(name + "nature()", x.nature(), FlowParts.NONE);
        int answer = x.solve();
        if (answer == 1) {
            proveBest(low, high);
            proveNearest();
            proveFirst();
        } else {
            Due.same(name + "solve()", answer, 0);
            proveNone(low, high);
            proveLeast(proofs);
        }
        return answer;
    }

    public static void main(String[] args) {
        int[] counts = new int[2];
        int[] proofs = new int[9];
        for (long seed = 0; seed < 6000 && !Due.anyWrong(); seed++) {
            int columns = seed % 3 == 0 ? (int) (seed % 11) : 10;
            int rows = seed % 5 == 0 ? 8 : (int) (seed % 9);
            int widest = seed % 2 == 0 ? 1000 : 30;
            int dearest = seed % 7 < 3 ? 1000 : seed % 7 < 5 ? 3 : 1;
            counts[new CertificateTest(seed, columns, rows).run(widest, dearest, proofs)]++;
        }
        Due.holds("many with a best point", counts[1] > 1000);
        Due.holds("many without a point", counts[0] > 300);
        Due.holds("many proofs of several rows", proofs[2] > 100 && counts[0] - proofs[1] - proofs[2] > 50);
        Due.end();
    }
}
