import java.lang.reflect.InvocationTargetException;
import java.lang.reflect.Method;
import java.lang.reflect.Modifier;
import java.util.ArrayList;
import java.util.Arrays;
import java.util.List;
import java.util.Random;

/** Long runs of calls, the same on a FlowParts and on the oracle: each answer must be the same. */
public final class OracleTest {
    private static final String[] NAMES = {
        "column", "row", "term", "bounds", "cost", "right", "clear", "parts", "part", "flow", "sign",
        "intervals", "nature", "knapsack", "matching", "way", "solve", "at", "value", "sum", "price",
        "reduced", "proof", "side"
    };
    private static final Method[] OF_REAL = methodsOf(FlowParts.class);
    private static final Method[] OF_ORACLE = methodsOf(Oracle.class);

    private final Random random;
    private FlowParts real;
    private Oracle oracle;
    private final List<String> told = new ArrayList<>();
    private final int[] seen;

    private OracleTest(long seed, int[] itsSeen) {
        random = new Random(seed);
        seen = itsSeen;
    }

    private int from(int low, int high) {
        return low + random.nextInt(high - low + 1);
    }

    private static Method[] methodsOf(Class<?> face) {
        Method[] methods = new Method[NAMES.length];
        for (Method method : face.getDeclaredMethods()) {
            int call = Arrays.asList(NAMES).indexOf(method.getName());
            if (call >= 0 && !Modifier.isPrivate(method.getModifiers())) {
                methods[call] = method;
            }
        }
        return methods;
    }

    private static String answer(Object x, Method method, int... numbers) {
        Object[] arguments = new Object[method.getParameterCount()];
        for (int k = 0; k < arguments.length; k++) {
            arguments[k] = numbers[k];
        }
        try {
            return String.valueOf(method.invoke(x, arguments));
        } catch (InvocationTargetException e) {
            return "throws." + e.getCause().getClass().getSimpleName();
        } catch (IllegalAccessException e) {
            throw new AssertionError(e);
        }
    }

    private void both(int call, int a, int b, int c) {
        String want = answer(oracle, OF_ORACLE[call], a, b, c);
        String got = answer(real, OF_REAL[call], a, b, c);
        if (want.equals("throws.AssertionError")) {
            throw new AssertionError("the oracle does not know: " + told);
        }
        told.add(NAMES[call] + "(" + a + "," + b + "," + c + ") = " + want);
        Due.same(got.equals(want) ? "" : String.join("\n  ", told) + "\n  which", got, want);
        if (!want.startsWith("throws")) {
            seen[call]++;
        }
    }

    private void askShape() {
        both(7, 0, 0, 0);
        both(9, 0, 0, 0);
        for (int call = 11; call <= 15; call++) {
            both(call, 0, 0, 0);
        }
        for (int row = -1; row <= oracle.rows; row++) {
            both(8, row, 0, 0);
            both(10, row, 0, 0);
        }
    }

    private void askAll() {
        askShape();
        both(16, 0, 0, 0);
        both(18, 0, 0, 0);
        both(22, 0, 0, 0);
        both(23, 0, 0, 0);
        for (int row = -1; row <= oracle.rows; row++) {
            both(19, row, 0, 0);
            both(20, row, 0, 0);
        }
        for (int column = -1; column <= oracle.columns; column++) {
            both(17, column, 0, 0);
            both(21, column, 0, 0);
        }
    }

    private void start() {
        real = new FlowParts();
        oracle = new Oracle();
        told.clear();
    }

    private void tellColumns(int count, int least, int widest, int leastCost, int mostCost) {
        for (int column = 0; column < count; column++) {
            int low = from(least, 1);
            both(0, low, low + from(0, widest), from(leastCost, mostCost));
        }
    }

    /** Terms of two rows at most; with hidden signs that is a flow, without them often none. */
    private void tellArcs(boolean sure) {
        int minus = random.nextInt(256);
        for (int column = 0; column < oracle.columns; column++) {
            int one = from(0, oracle.rows);
            int other = from(0, oracle.rows);
            int a = from(0, 1) * 2 - 1;
            int turn = (minus >> one & 1) == (minus >> other & 1) ? -1 : 1;
            int b = sure ? a * turn : from(0, 1) * 2 - 1;
            if (one < oracle.rows) {
                both(2, one, column, a);
            }
            if (other < oracle.rows && other != one) {
                both(2, other, column, b);
            }
        }
    }

    private void flowRun() {
        start();
        tellColumns(from(0, 5), -2, 3, -2, 2);
        int rows = from(0, 4);
        for (int row = 0; row < rows; row++) {
            both(1, from(0, 1), from(-3, 3), 0);
        }
        tellArcs(random.nextInt(4) > 0);
        askAll();
        for (int again = 0; again < 4; again++) {
            changeSomething();
            askAll();
        }
    }

    private void changeSomething() {
        if (oracle.columns == 0 || oracle.rows == 0) {
            return;
        }
        int column = from(0, oracle.columns - 1);
        int row = from(0, oracle.rows - 1);
        switch (random.nextInt(4)) {
            case 0: both(3, column, from(-2, 0), from(0, 2)); break;
            case 1: both(4, column, from(-2, 2), 0); break;
            case 2: both(5, row, from(-2, 2), 0); break;
            default: both(2, row, column, from(-1, 1));
        }
    }

    /** Ways and matchings are rare among others, so some are told as such. */
    private void unitRun() {
        start();
        boolean way = random.nextBoolean();
        int rows = from(1, 5);
        for (int row = 0; row < rows; row++) {
            both(1, way ? 1 : from(0, 1), way ? 0 : 1, 0);
        }
        int columns = from(0, 6);
        int half = from(0, rows);
        for (int column = 0; column < columns; column++) {
            both(0, 0, way ? from(1, 2) : 1, from(way ? 0 : -2, 2));
            int one = from(0, rows - 1);
            int other = from(0, rows - 1);
            boolean same = one < half == other < half;
            if (one != other && (way || !same)) {
                both(2, one, column, 1);
                both(2, other, column, way && same ? -1 : 1);
            } else if (!way) {
                both(2, one, column, 1);
            }
        }
        if (way) {
            both(5, from(0, rows - 1), from(0, 1) * 2 - 1, 0);
            both(5, from(0, rows - 1), from(0, 1) * 2 - 1, 0);
        }
        askAll();
        changeSomething();
        askAll();
    }

    private void knapsackRun() {
        start();
        tellColumnsOfSack(from(0, 5));
        both(1, random.nextInt(12) == 0 ? 1 : 0, random.nextInt(12) == 0 ? -1 : from(0, 25), 0);
        for (int column = 0; column < oracle.columns; column++) {
            both(2, 0, column, random.nextInt(25) == 0 ? 0 : from(1, 9));
        }
        askAll();
        both(5, 0, from(0, 12), 0);
        both(4, 0, from(-3, 1), 0);
        askAll();
    }

    private void tellColumnsOfSack(int count) {
        for (int column = 0; column < count; column++) {
            both(0, random.nextInt(25) == 0 ? -1 : 0, from(0, 5), from(-9, 2));
        }
    }

    private void anyRun() {
        start();
        tellColumns(from(0, 4), -1, 2, -2, 2);
        int rows = from(0, 5);
        for (int row = 0; row < rows; row++) {
            both(1, from(0, 1), from(-2, 2), 0);
        }
        boolean ones = random.nextBoolean();
        for (int row = 0; row < rows; row++) {
            for (int column = 0; column < oracle.columns; column++) {
                int a = random.nextInt(60) == 0 ? from(-3, 3) : from(ones ? 0 : -1, 1);
                both(2, row, column, a);
            }
        }
        askAll();
    }

    /** As many rows and columns as there may be; what it is alone, as the oracle can't solve these. */
    private void fullRun() {
        start();
        int rows = from(5, 8);
        for (int row = 0; row < rows; row++) {
            both(1, 1, 0, 0);
        }
        tellColumns(from(6, 10), 0, 0, 0, 1);
        switch (random.nextInt(3)) {
            case 0: tellArcs(random.nextInt(3) > 0); break;
            case 1: tellSpans(); break;
            default: tellFew();
        }
        askShape();
        for (int again = 0; again < 3; again++) {
            both(2, from(0, rows - 1), from(0, oracle.columns - 1), from(-1, 1));
            askShape();
        }
    }

    /** Rows one behind the other; turned rows and columns are no intervals, but whole by nature still. */
    private void tellSpans() {
        int minus = random.nextInt(2) * random.nextInt(256);
        for (int column = 0; column < oracle.columns; column++) {
            int turn = minus == 0 ? 1 : from(0, 1) * 2 - 1;
            int last = from(0, oracle.rows - 1);
            for (int row = from(0, last); row <= last; row++) {
                both(2, row, column, (minus >> row & 1) == 1 ? -turn : turn);
            }
        }
    }

    /** Few terms, so that parts are many and the first set that can't be parted is a late one. */
    private void tellFew() {
        for (int column = 0; column < oracle.columns; column++) {
            for (int count = from(0, 3); count > 0; count--) {
                both(2, from(0, oracle.rows - 1), column, from(0, 1) * 2 - 1);
            }
        }
    }

    /** Calls in any order, with wrong numbers among them. */
    private void wildRun() {
        start();
        for (int k = 0; k < 120; k++) {
            int call = random.nextInt(3) == 0 ? random.nextInt(6) : random.nextInt(NAMES.length);
            if (call == 6 && random.nextInt(4) > 0 || call == 0 && oracle.columns > 4) {
                continue;
            }
            int wrong = random.nextInt(40) == 0 ? from(0, 1) * 200002 - 100001 : 0;
            switch (call) {
                case 0: both(0, from(-2, 1), from(0, 2), from(-2, 2) + wrong); break;
                case 1: both(1, oracle.rows > 3 ? 2 : from(-1, 2), from(-2, 2) + wrong, 0); break;
                case 2: both(2, from(-1, 4), from(-1, 5), from(-1, 1) + wrong); break;
                case 3: both(3, from(-1, 5), from(-2, 1), from(0, 2) + wrong); break;
                default: both(call, from(-1, 5), from(-2, 2) + wrong, 0);
            }
        }
    }

    public static void main(String[] args) {
        int[] seen = new int[NAMES.length];
        for (long seed = 0; seed < 2500 && !Due.anyWrong(); seed++) {
            OracleTest test = new OracleTest(seed, seen);
            test.flowRun();
            test.unitRun();
            test.knapsackRun();
            test.anyRun();
            test.fullRun();
            test.wildRun();
        }
        for (int call = 0; call < NAMES.length; call++) {
            Due.holds(NAMES[call] + " answered often enough", seen[call] > 500);
        }
        Due.end();
    }
}
