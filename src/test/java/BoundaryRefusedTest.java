/**
 * The paragraph "Exceptions": in each state that an object can be in, every call with numbers at and
 * beside the limits. A refused one throws what stands first at its method and changes nothing; one that
 * changes the whole ends what was SOLVED; a question changes nothing.
 */
public final class BoundaryRefusedTest {
    private static final int[] SMALL = {Integer.MIN_VALUE, -1001, -1000, -1, 0, 1, 1000, 1001, Integer.MAX_VALUE};
    private static final int[] RIGHTS = {Integer.MIN_VALUE, -100001, -100000, 0, 100000, 100001, Integer.MAX_VALUE};
    private static final int[] TERMS = {Integer.MIN_VALUE, -101, -100, -1, 0, 1, 100, 101, Integer.MAX_VALUE};
    private static final int[] KINDS = {Integer.MIN_VALUE, -1, 0, 1, 2, Integer.MAX_VALUE};
    private static final int[] NUMBERS = {Integer.MIN_VALUE, -1, 0, 1, 2, 3, 7, 8, 9, 10, Integer.MAX_VALUE};

    private enum Sample {
        NEW(0, 0, true), COLUMNS(2, 0, true), ROWS(0, 2, true), UNSOLVED(2, 3, true), BEST(2, 3, true),
        NO_POINT(2, 3, true), KNAPSACK(3, 1, false), NEITHER(2, 3, false), FULL(10, 8, true),
        FULL_NO_POINT(10, 8, true), ONE_PLACE_LEFT(9, 7, true);

        final int columns;
        final int rows;
        final boolean flow;

        Sample(int itsColumns, int itsRows, boolean itsFlow) {
            columns = itsColumns;
            rows = itsRows;
            flow = itsFlow;
        }

        boolean hasBest() {
            return this != NEW && this != UNSOLVED && this != NEITHER && !hasNoPoint();
        }

        boolean hasNoPoint() {
            return this == NO_POINT || this == FULL_NO_POINT;
        }

        FlowParts make() {
            int[][] itsColumns = Told.same(columns, 0, 5, -2);
            FlowParts x = Told.whole(itsColumns, Told.same(rows, this == KNAPSACK ? 0 : 1, 0));
            if (this == KNAPSACK) {
                sack(x);
            } else if (rows > 1 && columns > 0) {
                chain(x);
            }
            if (this == NEITHER) {
                x.term(0, 0, 2);
            }
            if (hasNoPoint()) {
                x.right(1, 6);
            }
            if (this != NEW && this != UNSOLVED) {
                x.solve();
            }
            return x;
        }

        private void sack(FlowParts x) {
            x.right(0, 7);
            for (int column = 0; column < columns; column++) {
                x.term(0, column, column + 2);
            }
        }

        private void chain(FlowParts x) {
            for (int column = 0; column < columns; column++) {
                int from = column % (rows - 1);
                x.term(from, column, -1);
                x.term(from + 1, column, 1);
            }
            x.right(0, -1);
            x.right(1, 1);
        }
    }

    private interface Call {
        void on(FlowParts x);
    }

    private final Sample sample;
    private final String before;

    private BoundaryRefusedTest(Sample itsSample) {
        sample = itsSample;
        before = Told.state(sample.make());
        Due.about("a call that throws changes nothing; it is the one that stands first at the method: "
                + sample);
    }

    private boolean isRow(int number) {
        return number >= 0 && number < sample.rows;
    }

    private boolean isColumn(int number) {
        return number >= 0 && number < sample.columns;
    }

    private static boolean within(int number, int most) {
        return -most <= number && number <= most;
    }

    private static boolean bounds(int low, int high) {
        return within(low, 1000) && within(high, 1000) && low <= high;
    }

    /** Null as the exception that is due: the call is to be taken, and ends what was solved. */
    private void change(String name, Class<? extends RuntimeException> want, Call call) {
        FlowParts x = sample.make();
        if (want != null) {
            Due.fails(name, want, () -> call.on(x));
            Due.same("the state after " + name, Told.state(x), before);
            return;
        }
        call.on(x);
        Due.fails("value() after " + name, Told.STATE, x::value);
        Due.fails("at(0) after " + name, Told.STATE, () -> x.at(0));
        Due.fails("sum(0) after " + name, Told.STATE, () -> x.sum(0));
        Due.fails("price(0) after " + name, Told.STATE, () -> x.price(0));
        Due.fails("reduced(0) after " + name, Told.STATE, () -> x.reduced(0));
        Due.fails("proof() after " + name, Told.STATE, x::proof);
        Due.fails("side() after " + name, Told.STATE, x::side);
    }

    private void question(String name, Class<? extends RuntimeException> want, Call call) {
        FlowParts x = sample.make();
        if (want != null) {
            Due.fails(name, want, () -> call.on(x));
        } else {
            call.on(x);
        }
        Due.same("the state after " + name, Told.state(x), before);
    }

    private static Class<? extends RuntimeException> first(boolean state, boolean index, boolean argument) {
        if (!state) {
            return Told.STATE;
        }
        if (!index) {
            return Told.INDEX;
        }
        return argument ? null : Told.ARGUMENT;
    }

    private void columns() {
        for (int low : SMALL) {
            for (int high : SMALL) {
                for (int cost : SMALL) {
                    boolean good = bounds(low, high) && within(cost, 1000);
                    change("column(" + low + ", " + high + ", " + cost + ")",
                            first(sample.columns < 10, true, good), x -> x.column(low, high, cost));
                }
            }
        }
    }

    private void rows() {
        for (int kind : KINDS) {
            for (int right : RIGHTS) {
                boolean good = (kind == 0 || kind == 1) && within(right, 100000);
                change("row(" + kind + ", " + right + ")", first(sample.rows < 8, true, good),
                        x -> x.row(kind, right));
            }
        }
    }

    private void terms() {
        for (int row : NUMBERS) {
            for (int column : NUMBERS) {
                for (int a : TERMS) {
                    change("term(" + row + ", " + column + ", " + a + ")",
                            first(true, isRow(row) && isColumn(column), within(a, 100)),
                            x -> x.term(row, column, a));
                }
            }
        }
    }

    private void boundsOfColumns() {
        for (int column : NUMBERS) {
            for (int low : SMALL) {
                for (int high : SMALL) {
                    change("bounds(" + column + ", " + low + ", " + high + ")",
                            first(true, isColumn(column), bounds(low, high)), x -> x.bounds(column, low, high));
                }
            }
        }
    }

    private void costsAndRights() {
        for (int number : NUMBERS) {
            for (int cost : SMALL) {
                change("cost(" + number + ", " + cost + ")",
                        first(true, isColumn(number), within(cost, 1000)), x -> x.cost(number, cost));
            }
            for (int right : RIGHTS) {
                change("right(" + number + ", " + right + ")",
                        first(true, isRow(number), within(right, 100000)), x -> x.right(number, right));
            }
        }
    }

    private void questionsOfNumbers() {
        boolean best = sample.hasBest();
        boolean priced = best && sample.flow;
        for (int number : NUMBERS) {
            String in = "(" + number + ")";
            question("part" + in, first(true, isRow(number), true), x -> x.part(number));
            question("sign" + in, first(sample.flow, isRow(number), true), x -> x.sign(number));
            question("at" + in, first(best, isColumn(number), true), x -> x.at(number));
            question("sum" + in, first(best, isRow(number), true), x -> x.sum(number));
            question("price" + in, first(priced, isRow(number), true), x -> x.price(number));
            question("reduced" + in, first(priced, isColumn(number), true), x -> x.reduced(number));
        }
    }

    private void otherQuestions() {
        boolean none = sample.hasNoPoint();
        question("parts()", null, FlowParts::parts);
        question("flow()", null, FlowParts::flow);
        question("intervals()", null, FlowParts::intervals);
        question("nature()", null, FlowParts::nature);
        question("knapsack()", null, FlowParts::knapsack);
        question("matching()", null, FlowParts::matching);
        question("way()", null, FlowParts::way);
        question("value()", first(sample.hasBest(), true, true), FlowParts::value);
        question("proof()", first(none, true, true), FlowParts::proof);
        question("side()", first(none, true, true), FlowParts::side);
        if (sample != Sample.NEW && sample != Sample.UNSOLVED) {
            question("solve() again", null, FlowParts::solve);
        }
    }

    private void all() {
        columns();
        rows();
        terms();
        boundsOfColumns();
        costsAndRights();
        change("clear()", null, FlowParts::clear);
        questionsOfNumbers();
        otherQuestions();
    }

    /** What is told last before the 512th call is still answered by it. */
    private static void longestRun() {
        Due.about("An object is used for at most 512 calls");
        FlowParts x = new FlowParts();
        int calls = 0;
        while (calls < 487) {
            Due.same("call " + calls + ", column()", x.column(0, 9, 1), 0);
            Due.same("row()", x.row(1, 4), 0);
            x.term(0, 0, 1);
            Due.same("solve()", x.solve(), 1);
            Due.same("at(0)", x.at(0), 4);
            Due.same("price(0)", x.price(0), 1);
            Due.same("right(0, 10)", x.right(0, 10), 4);
            Due.same("solve() then", x.solve(), 0);
            Due.same("proof()", x.proof(), 1);
            Due.same("side()", x.side(), -1);
            Due.same("clear()", x.clear(), 1);
            calls += 11;
        }
        while (calls < 500) {
            Due.fails("a refused call", Told.ARGUMENT, () -> x.column(1, 0, 0));
            calls++;
        }
        for (int column = 0; column < 10; column++) {
            Due.same("column()", x.column(-1000, 1000, -1000), column);
        }
        Due.same("solve(), the 511th call", x.solve(), 1);
        Due.same("value(), the 512th call", x.value(), -10000000);
    }

    private static void everyCallRefused() {
        Due.about("512 refused calls change nothing");
        FlowParts x = Sample.FULL.make();
        for (int call = 0; call < 256; call++) {
            Due.fails("an eleventh column", Told.STATE, () -> x.column(0, 0, 0));
            Due.fails("a ninth row", Told.STATE, () -> x.row(0, 0));
        }
        Due.same("the state", Told.state(x), Told.state(Sample.FULL.make()));
    }

    private static void samplesAreAsNamed() {
        Due.about("the samples");
        for (Sample sample : Sample.values()) {
            FlowParts x = sample.make();
            Due.same(sample + ", flow", Told.asInt(x.flow() == FlowParts.NONE), Told.asInt(sample.flow));
            boolean none = sample == Sample.NEITHER;
            Due.same(sample + ", solve()", x.solve(), none ? FlowParts.NONE : sample.hasNoPoint() ? 0 : 1);
            Due.same(sample + ", columns", x.clear(), sample.columns);
        }
    }

    public static void main(String[] args) {
        samplesAreAsNamed();
        for (Sample sample : Sample.values()) {
            new BoundaryRefusedTest(sample).all();
        }
        longestRun();
        everyCallRefused();
        Due.end();
    }
}
