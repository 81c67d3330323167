import java.util.Random;

/** Knapsacks with numbers up to the limits, against every number of every column in turn. */
public final class KnapsackTest {
    private KnapsackTest() {
    }

    /** The first best point of the columns from a number on, for each load, grown from the last column. */
    private static int[] bestPoint(int[] high, int[] cost, int[] a, int load) {
        int count = high.length;
        int[][] points = new int[load + 1][count];
        int[] values = new int[load + 1];
        for (int column = count - 1; column >= 0; column--) {
            int[][] next = new int[load + 1][];
            int[] nextValues = new int[load + 1];
            for (int space = 0; space <= load; space++) {
                for (int number = 0; number <= high[column] && number * a[column] <= space; number++) {
                    int rest = space - number * a[column];
                    int value = values[rest] + number * cost[column];
                    if (next[space] == null || value < nextValues[space]) {
                        next[space] = points[rest].clone();
                        next[space][column] = number;
                        nextValues[space] = value;
                    }
                }
            }
            points = next;
            values = nextValues;
        }
        return points[load];
    }

    private static void run(FlowParts x, Random random, int heaviest, int dearest) {
        int count = 1 + random.nextInt(10);
        int[] high = new int[count];
        int[] cost = new int[count];
        int[] a = new int[count];
        int load = random.nextInt(3) == 0 ? 300 : random.nextInt(301);
        x.clear();
        x.row(0, load);
        for (int column = 0; column < count; column++) {
            high[column] = random.nextInt(3) == 0 ? 1000 : random.nextInt(12);
            cost[column] = random.nextInt(dearest + 3) - dearest;
            a[column] = 2 + random.nextInt(heaviest);
            x.column(0, high[column], cost[column]);
            x.term(0, column, a[column]);
        }
        int[] want = bestPoint(high, cost, a, load);
        Due.same("solve()", x.solve(), 1);
        int value = 0;
        int sum = 0;
        for (int column = 0; column < count; column++) {
            Due.same("at(" + column + ") of " + count + ", load " + load, x.at(column), want[column]);
            value += cost[column] * want[column];
            sum += a[column] * want[column];
        }
        Due.same("value()", x.value(), value);
        Due.same("sum(0)", x.sum(0), sum);
    }

    public static void main(String[] args) {
        Random random = new Random(5);
        FlowParts x = new FlowParts();
        for (int k = 0; k < 600; k++) {
            run(x, random, 1 + random.nextInt(k % 2 == 0 ? 5 : 99), k % 3 == 0 ? 998 : 1 + k % 7);
        }
        Due.end();
    }
}
