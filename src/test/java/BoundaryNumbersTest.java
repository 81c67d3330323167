/** The sentences of "1 THE WHOLE" and of promises 1 to 8 that name a boundary, one test each. */
public final class BoundaryNumbersTest {
    private static final int[] FAR = {Integer.MIN_VALUE, Integer.MIN_VALUE + 1, Integer.MAX_VALUE - 1, Integer.MAX_VALUE};

    private BoundaryNumbersTest() {
    }

    /** Two columns and two rows, solved; every test that refuses a call looks whether this has changed. */
    private static FlowParts solved() {
        FlowParts x = Told.whole(new int[][] {{-3, 4, 7}, {-5, 6, -8}}, new int[][] {{0, 2, 1, -1}, {1, 5, 0, 1}});
        Due.same("solve() of the sample", x.solve(), 1);
        return x;
    }

    private interface Call {
        void on(FlowParts x);
    }

    private static void refused(String name, Class<? extends RuntimeException> want, Call call) {
        FlowParts x = solved();
        Due.fails(name, want, () -> call.on(x));
        Due.same("after the refused " + name, Told.state(x), Told.state(solved()));
    }

    private static void newObject() {
        Due.about("No columns, no rows; nothing is SOLVED");
        FlowParts x = new FlowParts();
        Due.fails("value()", Told.STATE, x::value);
        Due.fails("proof()", Told.STATE, x::proof);
        Due.fails("side()", Told.STATE, x::side);
        Due.fails("at(0)", Told.STATE, () -> x.at(0));
        Due.fails("sum(0)", Told.STATE, () -> x.sum(0));
        Due.fails("price(0)", Told.STATE, () -> x.price(0));
        Due.fails("reduced(0)", Told.STATE, () -> x.reduced(0));
        Due.fails("term(0, 0, 0)", Told.INDEX, () -> x.term(0, 0, 0));
        Due.fails("bounds(0, 0, 0)", Told.INDEX, () -> x.bounds(0, 0, 0));
        Due.fails("cost(0, 0)", Told.INDEX, () -> x.cost(0, 0));
        Due.fails("right(0, 0)", Told.INDEX, () -> x.right(0, 0));
        Due.fails("part(0)", Told.INDEX, () -> x.part(0));
        Due.fails("sign(0)", Told.INDEX, () -> x.sign(0));
        Due.same("parts()", x.parts(), 0);
        Due.same("column()", x.column(0, 0, 0), 0);
        Due.same("row()", x.row(0, 0), 0);
        Due.same("NONE", FlowParts.NONE, -1);
    }

    private static void objectsApart() {
        Due.about("A new object has no columns, whatever another one was told");
        FlowParts x = solved();
        FlowParts y = new FlowParts();
        Due.same("clear() of the new one", y.clear(), 0);
        Due.same("the other one", Told.state(x), Told.state(solved()));
    }

    private static void tenColumns() {
        Due.about("THE WHOLE has at most 10 COLUMNS; IllegalStateException: there are 10");
        FlowParts x = new FlowParts();
        for (int column = 0; column < 10; column++) {
            Due.same("column()", x.column(column, column + 1, -column), column);
        }
        Due.same("solve()", x.solve(), 1);
        Due.fails("an eleventh column", Told.STATE, () -> x.column(0, 0, 0));
        Due.same("still solved", x.at(9), 10);
        Due.fails("there is no column 10", Told.INDEX, () -> x.at(10));
        Due.fails("an eleventh column again", Told.STATE, () -> x.column(0, 0, 0));
        Due.same("column 9's cost", x.cost(9, 0), -9);
        Due.same("clear()", x.clear(), 10);
        for (int column = 0; column < 10; column++) {
            Due.same("column() after clear()", x.column(0, 0, 0), column);
        }
        Due.fails("an eleventh column after clear()", Told.STATE, () -> x.column(0, 0, 0));
    }

    private static void eightRows() {
        Due.about("THE WHOLE has at most 8 ROWS; IllegalStateException: there are 8");
        FlowParts x = new FlowParts();
        for (int row = 0; row < 8; row++) {
            Due.same("row()", x.row(0, 10 + row), row);
        }
        Due.same("solve()", x.solve(), 1);
        Due.fails("a ninth row", Told.STATE, () -> x.row(0, 0));
        Due.same("still solved", x.sum(7), 0);
        Due.same("parts()", x.parts(), 8);
        Due.fails("there is no row 8", Told.INDEX, () -> x.part(8));
        Due.fails("a ninth row again", Told.STATE, () -> x.row(1, 0));
        Due.same("row 7's right", x.right(7, 0), 17);
        x.clear();
        for (int row = 0; row < 8; row++) {
            Due.same("row() after clear()", x.row(1, 0), row);
        }
        Due.fails("a ninth row after clear()", Told.STATE, () -> x.row(1, 0));
    }

    private static void placesApart() {
        Due.about("10 columns leave 8 rows free, and 8 rows 10 columns");
        FlowParts x = Told.whole(Told.same(10, 0, 0, 0), new int[0][]);
        Due.same("row() beside 10 columns", x.row(0, 0), 0);
        FlowParts y = Told.whole(new int[0][], Told.same(8, 0, 0));
        for (int column = 0; column < 10; column++) {
            Due.same("column() beside 8 rows", y.column(0, 0, 0), column);
        }
        y.term(7, 9, 100);
        Due.same("the last coefficient", y.flow(), 9);
    }

    private static void stateBeforeArgument() {
        Due.about("of several that could be thrown it is the one that stands first at the method");
        FlowParts x = Told.whole(Told.same(10, 0, 0, 0), Told.same(8, 0, 0));
        Due.fails("an eleventh column with a wrong low", Told.STATE, () -> x.column(-1001, 0, 0));
        Due.fails("an eleventh column with low above high", Told.STATE, () -> x.column(1, 0, 0));
        Due.fails("an eleventh column with a wrong cost", Told.STATE, () -> x.column(0, 0, 1001));
        Due.fails("a ninth row with a wrong kind", Told.STATE, () -> x.row(2, 0));
        Due.fails("a ninth row with a wrong right", Told.STATE, () -> x.row(0, 100001));
    }

    private static void numberedAsTold() {
        Due.about("numbered from 0 on as they are told");
        FlowParts x = new FlowParts();
        Due.same("row()", x.row(0, 5), 0);
        Due.same("column()", x.column(0, 0, 1), 0);
        Due.fails("a refused column takes no number", Told.ARGUMENT, () -> x.column(1, 0, 0));
        Due.same("column()", x.column(0, 0, 2), 1);
        Due.fails("a refused row takes no number", Told.ARGUMENT, () -> x.row(2, 0));
        Due.same("row()", x.row(0, 6), 1);
        Due.same("cost(0)", x.cost(0, 0), 1);
        Due.same("cost(1)", x.cost(1, 0), 2);
        Due.same("right(0)", x.right(0, 0), 5);
        Due.same("right(1)", x.right(1, 0), 6);
    }

    private static void lows() {
        Due.about("LOW -1000 .. 1000");
        Due.same("column(-1000, 0, 1)", leastOf(-1000, 0), -1000);
        Due.same("column(1000, 1000, 1)", leastOf(1000, 1000), 1000);
        refused("column(-1001, 0, 1)", Told.ARGUMENT, x -> x.column(-1001, 0, 1));
        refused("column(1001, 1001, 1)", Told.ARGUMENT, x -> x.column(1001, 1001, 1));
        refused("column(1001, 1000, 1)", Told.ARGUMENT, x -> x.column(1001, 1000, 1));
        refused("bounds(0, -1001, 0)", Told.ARGUMENT, x -> x.bounds(0, -1001, 0));
        refused("bounds(1, 1001, 1001)", Told.ARGUMENT, x -> x.bounds(1, 1001, 1001));
    }

    /** Told by column() and again by bounds(): both answer the same. */
    private static int leastOf(int low, int high) {
        FlowParts x = Told.whole(new int[][] {{low, high, 1}, {5, 5, 1}}, new int[0][]);
        x.bounds(1, low, high);
        x.solve();
        Due.same("the low by bounds()", x.at(1), x.at(0));
        return x.at(0);
    }

    private static int mostOf(int low, int high) {
        FlowParts x = Told.whole(new int[][] {{low, high, -1}, {5, 5, -1}}, new int[0][]);
        x.bounds(1, low, high);
        x.solve();
        Due.same("the high by bounds()", x.at(1), x.at(0));
        return x.at(0);
    }

    private static void highs() {
        Due.about("HIGH -1000 .. 1000");
        Due.same("column(0, 1000, -1)", mostOf(0, 1000), 1000);
        Due.same("column(-1000, -1000, -1)", mostOf(-1000, -1000), -1000);
        refused("column(0, 1001, 1)", Told.ARGUMENT, x -> x.column(0, 1001, 1));
        refused("column(-1001, -1001, 1)", Told.ARGUMENT, x -> x.column(-1001, -1001, 1));
        refused("column(-1000, -1001, 1)", Told.ARGUMENT, x -> x.column(-1000, -1001, 1));
        refused("bounds(0, 0, 1001)", Told.ARGUMENT, x -> x.bounds(0, 0, 1001));
        refused("bounds(1, -1001, -1001)", Told.ARGUMENT, x -> x.bounds(1, -1001, -1001));
    }

    private static void lowAtMostHigh() {
        Due.about("LOW at most HIGH");
        int[] numbers = {-1000, -1, 0, 1, 999};
        for (int number : numbers) {
            Due.same("the least of low = high", leastOf(number, number), number);
            Due.same("the most of low = high", mostOf(number, number), number);
            refused("column() with low = high + 1", Told.ARGUMENT, x -> x.column(number + 1, number, 0));
            refused("bounds() with low = high + 1", Told.ARGUMENT, x -> x.bounds(0, number + 1, number));
        }
        refused("column(1000, -1000, 0)", Told.ARGUMENT, x -> x.column(1000, -1000, 0));
        refused("bounds(1, 1000, -1000)", Told.ARGUMENT, x -> x.bounds(1, 1000, -1000));
    }

    private static void costs() {
        Due.about("a COST (-1000 .. 1000)");
        FlowParts x = Told.whole(new int[][] {{1, 1, -1000}, {1, 1, 1000}}, new int[0][]);
        Due.same("cost(0, 1000)", x.cost(0, 1000), -1000);
        Due.same("cost(1, -1000)", x.cost(1, -1000), 1000);
        Due.same("cost(0, 0)", x.cost(0, 0), 1000);
        Due.same("cost(1, 0)", x.cost(1, 0), -1000);
        Due.same("cost(1, 0) again", x.cost(1, 0), 0);
        refused("column(0, 0, -1001)", Told.ARGUMENT, y -> y.column(0, 0, -1001));
        refused("column(0, 0, 1001)", Told.ARGUMENT, y -> y.column(0, 0, 1001));
        refused("cost(0, -1001)", Told.ARGUMENT, y -> y.cost(0, -1001));
        refused("cost(1, 1001)", Told.ARGUMENT, y -> y.cost(1, 1001));
    }

    private static void kinds() {
        Due.about("IllegalArgumentException: kind is not 0, 1");
        FlowParts x = Told.whole(new int[][] {{1, 1, 0}}, new int[][] {{0, 2, 1}, {1, 1, 0}});
        Due.same("kind 1 with a sum of 0 that should be 1", x.solve(), 0);
        Due.same("the row that does not hold", x.proof(), 2);
        refused("row(-1, 0)", Told.ARGUMENT, y -> y.row(-1, 0));
        refused("row(2, 0)", Told.ARGUMENT, y -> y.row(2, 0));
    }

    private static void rights() {
        Due.about("a RIGHT (-100000 .. 100000)");
        FlowParts x = new FlowParts();
        x.row(0, -100000);
        x.row(1, 100000);
        Due.same("right(0, 100000)", x.right(0, 100000), -100000);
        Due.same("right(1, -100000)", x.right(1, -100000), 100000);
        Due.same("right(0, 0)", x.right(0, 0), 100000);
        Due.same("right(1, 0)", x.right(1, 0), -100000);
        Due.same("right(1, 0) again", x.right(1, 0), 0);
        for (int k = 0; k < 2; k++) {
            int kind = k;
            refused("row(" + kind + ", -100001)", Told.ARGUMENT, y -> y.row(kind, -100001));
            refused("row(" + kind + ", 100001)", Told.ARGUMENT, y -> y.row(kind, 100001));
            refused("right(" + kind + ", -100001)", Told.ARGUMENT, y -> y.right(kind, -100001));
            refused("right(" + kind + ", 100001)", Told.ARGUMENT, y -> y.right(kind, 100001));
        }
    }

    private static void coefficients() {
        Due.about("a coefficient (-100 .. 100)");
        FlowParts x = Told.whole(new int[][] {{0, 5, -1}, {0, 5, 1}}, new int[][] {{0, 300, 2, 2}});
        x.term(0, 0, 100);
        Due.same("solve() with 100", x.solve(), 1);
        Due.same("sum() with 100", x.sum(0), 300);
        x.term(0, 1, -100);
        Due.same("knapsack() with -100", Told.asInt(x.knapsack()), 0);
        Due.same("intervals() with 100", x.intervals(), 0);
        refused("term(0, 0, 101)", Told.ARGUMENT, y -> y.term(0, 0, 101));
        refused("term(1, 1, -101)", Told.ARGUMENT, y -> y.term(1, 1, -101));
    }

    private static void farNumbers() {
        Due.about("IllegalArgumentException: a number is not as told, however far it is");
        for (int far : FAR) {
            refused("column(" + far + ", 0, 0)", Told.ARGUMENT, x -> x.column(far, 0, 0));
            refused("column(0, " + far + ", 0)", Told.ARGUMENT, x -> x.column(0, far, 0));
            refused("column(both " + far + ")", Told.ARGUMENT, x -> x.column(far, far, 0));
            refused("column(0, 0, " + far + ")", Told.ARGUMENT, x -> x.column(0, 0, far));
            refused("row(" + far + ", 0)", Told.ARGUMENT, x -> x.row(far, 0));
            refused("row(0, " + far + ")", Told.ARGUMENT, x -> x.row(0, far));
            refused("row(1, " + far + ")", Told.ARGUMENT, x -> x.row(1, far));
            refused("term(0, 0, " + far + ")", Told.ARGUMENT, x -> x.term(0, 0, far));
            refused("bounds(0, " + far + ", 0)", Told.ARGUMENT, x -> x.bounds(0, far, 0));
            refused("bounds(0, 0, " + far + ")", Told.ARGUMENT, x -> x.bounds(0, 0, far));
            refused("bounds(both " + far + ")", Told.ARGUMENT, x -> x.bounds(0, far, far));
            refused("cost(0, " + far + ")", Told.ARGUMENT, x -> x.cost(0, far));
            refused("right(0, " + far + ")", Told.ARGUMENT, x -> x.right(0, far));
        }
        refused("column(least, most, 0)", Told.ARGUMENT, x -> x.column(Integer.MIN_VALUE, Integer.MAX_VALUE, 0));
    }

    private static void zeroAtFirst() {
        Due.about("for each column a coefficient, 0 at first");
        FlowParts x = new FlowParts();
        x.column(1, 1, 0);
        x.row(0, 9);
        x.column(1, 1, 0);
        x.row(1, 0);
        Due.same("solve()", x.solve(), 1);
        Due.same("sum(0)", x.sum(0), 0);
        Due.same("sum(1)", x.sum(1), 0);
        Due.same("parts()", x.parts(), 2);
        x.clear();
        FlowParts full = Told.whole(Told.same(10, 1, 1, 0), Told.same(8, 0, 100, 9, 9, 9, 9, 9, 9, 9, 9, 9, 9));
        full.clear();
        for (int row = 0; row < 8; row++) {
            full.row(0, 0);
        }
        for (int column = 0; column < 10; column++) {
            full.column(1, 1, 0);
        }
        Due.same("after clear(), flow()", full.flow(), FlowParts.NONE);
        Due.same("after clear(), parts()", full.parts(), 8);
        Due.same("after clear(), intervals()", full.intervals(), FlowParts.NONE);
    }

    private static void zeroIsNoTerm() {
        Due.about("those that are not 0 are its TERMS");
        FlowParts x = Told.whole(Told.same(1, 1, 1, 0), Told.same(3, 0, 9, 1));
        Due.same("three terms", x.flow(), 0);
        x.term(1, 0, 0);
        Due.same("two terms", x.flow(), FlowParts.NONE);
        Due.same("parts()", x.parts(), 2);
        x.term(2, 0, 0);
        Due.same("one term", x.parts(), 3);
        x.term(0, 0, 0);
        x.solve();
        Due.same("no term", x.sum(0), 0);
        x.term(0, 0, -1);
        x.solve();
        Due.same("a coefficient told anew", x.sum(0), -1);
    }

    private static int fits(int kind, int right) {
        return Told.whole(new int[][] {{2, 3, 0}, {-1, 0, 0}}, new int[][] {{kind, right, 1, 1}}).solve();
    }

    private static void holds() {
        Due.about("it HOLDS when the SUM is at most RIGHT (KIND 0), or is RIGHT (KIND 1)");
        Due.same("kind 0, right one below the least sum", fits(0, 0), 0);
        Due.same("kind 0, right the least sum", fits(0, 1), 1);
        Due.same("kind 0, right the most", fits(0, 100000), 1);
        Due.same("kind 0, right the least", fits(0, -100000), 0);
        Due.same("kind 1, right one below the least sum", fits(1, 0), 0);
        Due.same("kind 1, right the least sum", fits(1, 1), 1);
        Due.same("kind 1, right the greatest sum", fits(1, 3), 1);
        Due.same("kind 1, right one above the greatest sum", fits(1, 4), 0);
        Due.same("kind 1, right the most", fits(1, 100000), 0);
        Due.same("kind 1, right the least", fits(1, -100000), 0);
    }

    private static void firstOfEquals() {
        Due.about("of these the first by column 0, 1, .. (the lesser number first)");
        FlowParts x = Told.whole(Told.same(3, -1000, 1000, 5), new int[][] {{1, 0, 1, 1, 1}});
        x.solve();
        int[] want = {-1000, 0, 1000};
        for (int column = 0; column < 3; column++) {
            Due.same("at(" + column + ")", x.at(column), want[column]);
        }
        FlowParts y = Told.whole(new int[][] {{-7, 7, 0}, {0, 1, 0}}, new int[0][]);
        y.solve();
        Due.same("cost 0 is at the low", y.at(0), -7);
        Due.same("a column behind it too", y.at(1), 0);
        FlowParts z = Told.whole(new int[][] {{0, 9, 1}, {0, 9, 0}, {0, 9, 0}}, new int[][] {{1, 9, 1, 1, 1}});
        z.solve();
        Due.same("a less value goes before a lesser number", z.at(0), 0);
        Due.same("then the lesser number", z.at(1), 0);
        Due.same("and the rest", z.at(2), 9);
    }

    private static void withoutColumns() {
        Due.about("Without columns there is one POINT");
        int[][] told = {{0, 0, 1}, {0, 1, 1}, {0, -1, 0}, {0, 100000, 1}, {0, -100000, 0},
            {1, 0, 1}, {1, 1, 0}, {1, -1, 0}, {1, 100000, 0}, {1, -100000, 0}};
        for (int[] row : told) {
            FlowParts x = new FlowParts();
            x.row(row[0], row[1]);
            Due.same("one row of kind " + row[0] + ", right " + row[1], x.solve(), row[2]);
        }
        FlowParts x = new FlowParts();
        Due.same("no row", x.solve(), 1);
        Due.same("its value", x.value(), 0);
        Due.fails("its at(0)", Told.INDEX, () -> x.at(0));
        Due.fails("its sum(0)", Told.INDEX, () -> x.sum(0));
        Due.fails("its price(0)", Told.INDEX, () -> x.price(0));
        Due.fails("its reduced(0)", Told.INDEX, () -> x.reduced(0));
        FlowParts full = Told.whole(new int[0][], Told.same(8, 1, 0));
        Due.same("eight rows", full.solve(), 1);
        Due.same("a sum of theirs", full.sum(7), 0);
        Due.same("a price of theirs", full.price(7), 0);
    }

    private static void costsAndRightsBefore() {
        Due.about("what it was");
        FlowParts x = solved();
        Due.fails("cost(0, 1001)", Told.ARGUMENT, () -> x.cost(0, 1001));
        Due.same("cost() behind a refused one", x.cost(0, 1), 7);
        Due.same("cost() behind that", x.cost(0, 2), 1);
        Due.same("the other column's", x.cost(1, 0), -8);
        Due.fails("right(1, 100001)", Told.ARGUMENT, () -> x.right(1, 100001));
        Due.same("right() behind a refused one", x.right(1, 6), 5);
        Due.same("right() behind that", x.right(1, 7), 6);
        Due.same("the other row's", x.right(0, 0), 2);
    }

    private static void cleared() {
        Due.about("There are no columns and rows then: how many columns there were");
        for (int count = 0; count <= 10; count++) {
            FlowParts x = Told.whole(Told.same(count, -1, 1, 3), Told.same(Math.min(count, 8), 1, 0));
            Due.same("clear()", x.clear(), count);
            Due.same("all is as in a new object", Told.state(x), Told.state(new FlowParts()));
        }
        FlowParts x = Told.whole(new int[0][], Told.same(8, 0, 0));
        Due.same("clear() of rows alone", x.clear(), 0);
        Due.same("parts()", x.parts(), 0);
        FlowParts y = solved();
        y.clear();
        Due.fails("at(0) of what was solved", Told.STATE, () -> y.at(0));
        y.column(-3, 4, 7);
        y.column(-5, 6, -8);
        y.row(0, 2);
        y.row(1, 5);
        y.term(0, 0, 1);
        y.term(0, 1, -1);
        y.term(1, 1, 1);
        y.solve();
        Due.same("told anew it is the same", Told.state(y), Told.state(solved()));
    }

    /** What a larger whole has left in the object must not be seen in a smaller one. */
    private static void clearedAndSmaller() {
        Due.about("There are no columns and rows then, whatever was SOLVED before");
        int[][] sack = {{0, 300, 2, 2, 2, 2, 2, 2, 2, 2, 2, 2}};
        FlowParts[] used = {
            Told.whole(Told.same(10, 0, 1000, -1000), Told.same(8, 0, 100000, 1)),
            Told.whole(Told.same(10, -1000, 1000, 1000), Told.same(8, 1, 0)),
            Told.whole(Told.same(10, 0, 0, 0), Told.same(8, 1, 100000)),
            Told.whole(Told.same(10, 0, 1000, -1000), sack),
        };
        for (FlowParts x : used) {
            x.solve();
            x.nature();
            x.clear();
            Due.same("solve() right after clear()", x.solve(), 1);
            Due.same("value() then", x.value(), 0);
            x.row(1, 1);
            x.column(0, 9, 3);
            x.term(0, 0, 1);
            x.row(0, 0);
            FlowParts fresh = Told.whole(new int[][] {{0, 9, 3}}, new int[][] {{1, 1, 1}, {0, 0, 0}});
            x.solve();
            fresh.solve();
            Due.same("as in a new object", Told.state(x), Told.state(fresh));
            x.row(0, 7);
            x.column(0, 9, -3);
            x.term(0, 0, 3);
            FlowParts other = Told.whole(new int[][] {{0, 9, -3}}, new int[][] {{0, 7, 3}});
            Due.same("a knapsack as in a new object", Told.state(x), Told.state(other));
        }
    }

    public static void main(String[] args) {
        newObject();
        objectsApart();
        tenColumns();
        eightRows();
        placesApart();
        stateBeforeArgument();
        numberedAsTold();
        lows();
        highs();
        lowAtMostHigh();
        costs();
        kinds();
        rights();
        coefficients();
        farNumbers();
        zeroAtFirst();
        zeroIsNoTerm();
        holds();
        firstOfEquals();
        withoutColumns();
        costsAndRightsBefore();
        cleared();
        clearedAndSmaller();
        Due.end();
    }
}
