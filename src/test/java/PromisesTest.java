/** Each promise of the document by its number: ordinary calls, the edges, and wrong ones. */
public final class PromisesTest {
    private static final Class<IllegalStateException> STATE = IllegalStateException.class;
    private static final Class<IllegalArgumentException> ARGUMENT = IllegalArgumentException.class;
    private static final Class<IndexOutOfBoundsException> INDEX = IndexOutOfBoundsException.class;

    private PromisesTest() {
    }

    private static FlowParts columns(int count, int low, int high, int cost) {
        FlowParts x = new FlowParts();
        for (int column = 0; column < count; column++) {
            x.column(low, high, cost);
        }
        return x;
    }

    private static void rows(FlowParts x, int count, int kind, int right) {
        for (int row = 0; row < count; row++) {
            x.row(kind, right);
        }
    }

    private static void arc(FlowParts x, int column, int from, int to) {
        x.term(from, column, -1);
        x.term(to, column, 1);
    }

    private static int asInt(boolean so) {
        return so ? 1 : 0;
    }

    private static void nothingSolved(String call, FlowParts x) {
        Due.fails(call + ", value()", STATE, x::value);
        Due.fails(call + ", at(0)", STATE, () -> x.at(0));
        Due.fails(call + ", sum(0)", STATE, () -> x.sum(0));
        Due.fails(call + ", price(0)", STATE, () -> x.price(0));
        Due.fails(call + ", reduced(0)", STATE, () -> x.reduced(0));
        Due.fails(call + ", proof()", STATE, x::proof);
        Due.fails(call + ", side()", STATE, x::side);
    }

    private static void promise1() {
        FlowParts x = new FlowParts();
        nothingSolved("new", x);
        Due.same("new, clear()", x.clear(), 0);
        Due.same("new, parts()", x.parts(), 0);
        Due.fails("new, part(0)", INDEX, () -> x.part(0));
        Due.fails("new, cost(0, 0)", INDEX, () -> x.cost(0, 0));
        Due.same("new, solve()", x.solve(), 1);
        Due.same("the one point without columns", x.value(), 0);
        Due.same("NONE", FlowParts.NONE, -1);
    }

    private static void promise2() {
        FlowParts x = new FlowParts();
        Due.fails("column(-1001, 0, 0)", ARGUMENT, () -> x.column(-1001, 0, 0));
        Due.fails("column(0, 1001, 0)", ARGUMENT, () -> x.column(0, 1001, 0));
        Due.fails("column(1001, 1001, 0)", ARGUMENT, () -> x.column(1001, 1001, 0));
        Due.fails("column(-1001, -1001, 0)", ARGUMENT, () -> x.column(-1001, -1001, 0));
        Due.fails("column(1, 0, 0)", ARGUMENT, () -> x.column(1, 0, 0));
        Due.fails("column(0, 0, 1001)", ARGUMENT, () -> x.column(0, 0, 1001));
        Due.fails("column(0, 0, -1001)", ARGUMENT, () -> x.column(0, 0, -1001));
        Due.fails("column(least int)", ARGUMENT, () -> x.column(Integer.MIN_VALUE, 0, 0));
        Due.same("column(-1000, 1000, -1000)", x.column(-1000, 1000, -1000), 0);
        Due.same("column(1000, 1000, 1000)", x.column(1000, 1000, 1000), 1);
        Due.same("column(-1000, -1000, 0)", x.column(-1000, -1000, 0), 2);
        for (int column = 3; column < 10; column++) {
            Due.same("column " + column, x.column(0, 0, 0), column);
        }
        Due.fails("an eleventh column", STATE, () -> x.column(0, 0, 0));
        Due.fails("an eleventh column, a wrong one", STATE, () -> x.column(1, 0, 2000));
        Due.same("ten columns", x.clear(), 10);
    }

    private static void promise3() {
        FlowParts x = new FlowParts();
        Due.fails("row(2, 0)", ARGUMENT, () -> x.row(2, 0));
        Due.fails("row(-1, 0)", ARGUMENT, () -> x.row(-1, 0));
        Due.fails("row(0, 100001)", ARGUMENT, () -> x.row(0, 100001));
        Due.fails("row(1, -100001)", ARGUMENT, () -> x.row(1, -100001));
        Due.same("row(0, 100000)", x.row(0, 100000), 0);
        Due.same("row(1, -100000)", x.row(1, -100000), 1);
        for (int row = 2; row < 8; row++) {
            Due.same("row " + row, x.row(0, 0), row);
        }
        Due.fails("a ninth row", STATE, () -> x.row(0, 0));
        Due.fails("a ninth row, a wrong one", STATE, () -> x.row(2, 200000));
        Due.same("eight parts", x.parts(), 8);
    }

    private static void promise4() {
        FlowParts x = columns(2, 0, 1, 0);
        rows(x, 1, 1, 1);
        Due.fails("term(1, 0, 1)", INDEX, () -> x.term(1, 0, 1));
        Due.fails("term(-1, 0, 1)", INDEX, () -> x.term(-1, 0, 1));
        Due.fails("term(0, 2, 1)", INDEX, () -> x.term(0, 2, 1));
        Due.fails("term(0, -1, 1)", INDEX, () -> x.term(0, -1, 1));
        Due.fails("term(1, 0, 101)", INDEX, () -> x.term(1, 0, 101));
        Due.fails("term(0, 2, 101)", INDEX, () -> x.term(0, 2, 101));
        Due.fails("term(0, 0, 101)", ARGUMENT, () -> x.term(0, 0, 101));
        Due.fails("term(0, 0, -101)", ARGUMENT, () -> x.term(0, 0, -101));
        Due.same("without a term", x.solve(), 0);
        x.term(0, 0, 100);
        Due.same("with 100", x.flow(), 0);
        x.term(0, 0, -100);
        Due.same("with -100", x.flow(), 0);
        x.term(0, 0, 0);
        x.term(0, 1, 1);
        Due.same("with a term", x.solve(), 1);
        Due.same("at(1)", x.at(1), 1);
    }

    private static void promise5() {
        FlowParts x = columns(1, -3, 4, 1);
        Due.fails("bounds(1, 0, 0)", INDEX, () -> x.bounds(1, 0, 0));
        Due.fails("bounds(-1, 1, 0)", INDEX, () -> x.bounds(-1, 1, 0));
        Due.fails("bounds(0, 1, 0)", ARGUMENT, () -> x.bounds(0, 1, 0));
        Due.fails("bounds(0, -1001, 0)", ARGUMENT, () -> x.bounds(0, -1001, 0));
        Due.fails("bounds(0, 0, 1001)", ARGUMENT, () -> x.bounds(0, 0, 1001));
        x.solve();
        Due.same("at the low", x.at(0), -3);
        x.bounds(0, -1000, 1000);
        x.solve();
        Due.same("at the new low", x.at(0), -1000);
        x.cost(0, -1);
        x.solve();
        Due.same("at the new high", x.at(0), 1000);
    }

    private static void promise6() {
        FlowParts x = columns(1, 0, 1, 7);
        Due.fails("cost(1, 0)", INDEX, () -> x.cost(1, 0));
        Due.fails("cost(-1, 1001)", INDEX, () -> x.cost(-1, 1001));
        Due.fails("cost(0, 1001)", ARGUMENT, () -> x.cost(0, 1001));
        Due.fails("cost(0, -1001)", ARGUMENT, () -> x.cost(0, -1001));
        Due.same("cost(0, -1000)", x.cost(0, -1000), 7);
        Due.same("cost(0, 1000)", x.cost(0, 1000), -1000);
        Due.same("cost(0, 0)", x.cost(0, 0), 1000);
    }

    private static void promise7() {
        FlowParts x = columns(1, 0, 9, 0);
        rows(x, 1, 1, 4);
        x.term(0, 0, 1);
        Due.fails("right(1, 0)", INDEX, () -> x.right(1, 0));
        Due.fails("right(-1, 100001)", INDEX, () -> x.right(-1, 100001));
        Due.fails("right(0, 100001)", ARGUMENT, () -> x.right(0, 100001));
        Due.fails("right(0, -100001)", ARGUMENT, () -> x.right(0, -100001));
        Due.same("right(0, -100000)", x.right(0, -100000), 4);
        Due.same("right(0, 100000)", x.right(0, 100000), -100000);
        Due.same("right(0, 9)", x.right(0, 9), 100000);
        Due.same("solve()", x.solve(), 1);
        Due.same("at(0)", x.at(0), 9);
    }

    private static void promise8() {
        FlowParts x = columns(3, 0, 1, 0);
        rows(x, 2, 1, 0);
        x.term(0, 0, 5);
        x.term(1, 2, -1);
        Due.same("clear()", x.clear(), 3);
        Due.same("clear() again", x.clear(), 0);
        Due.same("no rows then", x.parts(), 0);
        Due.fails("no columns then", INDEX, () -> x.cost(0, 0));
        Due.same("numbers start anew", x.column(0, 1, 0), 0);
        Due.same("rows start anew", x.row(0, 0), 0);
        Due.same("old coefficients are gone", x.flow(), FlowParts.NONE);
        x.column(0, 1, 0);
        x.column(0, 1, 0);
        x.row(0, 0);
        Due.same("all of them", x.parts(), 2);
        Due.same("and of the last column", x.intervals(), FlowParts.NONE);
    }

    private static void promises9And10() {
        FlowParts x = columns(3, 0, 1, 0);
        rows(x, 6, 0, 0);
        Due.same("rows by themselves", x.parts(), 6);
        x.term(5, 0, 3);
        x.term(3, 0, -7);
        x.term(3, 1, 100);
        x.term(1, 1, 1);
        x.term(0, 2, 1);
        Due.same("parts()", x.parts(), 4);
        int[] want = {0, 1, 2, 1, 4, 1};
        for (int row = 0; row < 6; row++) {
            Due.same("part(" + row + ")", x.part(row), want[row]);
        }
        x.term(2, 2, 1);
        x.term(4, 2, 1);
        Due.same("three rows by one column", x.part(4), 0);
        Due.same("parts() then", x.parts(), 2);
        x.term(3, 1, 0);
        Due.same("parted again", x.part(5), 3);
        Due.fails("part(6)", INDEX, () -> x.part(6));
        Due.fails("part(-1)", INDEX, () -> x.part(-1));
    }

    private static void promise11() {
        FlowParts x = columns(4, 0, 1, 0);
        rows(x, 4, 0, 0);
        x.term(0, 1, 1);
        x.term(1, 1, 1);
        x.term(0, 2, 1);
        x.term(1, 2, -1);
        Due.same("no signs from column 2 on", x.flow(), 2);
        x.term(2, 3, 2);
        Due.same("a column that is none by itself comes first", x.flow(), 3);
        x.term(2, 3, 1);
        x.term(0, 3, 1);
        x.term(3, 3, 1);
        Due.same("three terms", x.flow(), 3);
        x.term(3, 3, 0);
        x.term(0, 2, -1);
        x.term(1, 2, -1);
        Due.same("the same with both turned", x.flow(), FlowParts.NONE);
        x.term(2, 0, -2);
        Due.same("one that is not 1 or -1", x.flow(), 0);
    }

    private static void promise12() {
        FlowParts x = columns(3, 0, 1, 0);
        rows(x, 5, 0, 0);
        x.term(3, 0, 1);
        x.term(4, 0, 1);
        x.term(1, 1, 1);
        x.term(4, 1, 1);
        x.term(0, 2, -1);
        int[] want = {1, 1, 1, 1, -1};
        for (int row = 0; row < 5; row++) {
            Due.same("sign(" + row + ")", x.sign(row), want[row]);
        }
        x.term(0, 2, 1);
        x.term(3, 2, 1);
        int[] then = {1, -1, 1, -1, 1};
        for (int row = 0; row < 5; row++) {
            Due.same("then sign(" + row + ")", x.sign(row), then[row]);
        }
        Due.fails("sign(5)", INDEX, () -> x.sign(5));
        Due.fails("sign(-1)", INDEX, () -> x.sign(-1));
        x.term(0, 0, 1);
        Due.fails("sign(0) of no flow", STATE, () -> x.sign(0));
        Due.fails("sign(5) of no flow", STATE, () -> x.sign(5));
    }

    private static void promise13() {
        FlowParts x = columns(3, 0, 1, 0);
        rows(x, 4, 0, 0);
        Due.same("none but 0", x.intervals(), FlowParts.NONE);
        for (int row = 0; row < 4; row++) {
            x.term(row, 0, 1);
        }
        x.term(2, 1, 1);
        x.term(3, 1, 1);
        Due.same("one behind the other", x.intervals(), FlowParts.NONE);
        x.term(0, 2, 1);
        x.term(3, 2, 1);
        Due.same("with a gap", x.intervals(), 2);
        x.term(3, 1, -1);
        Due.same("with -1", x.intervals(), 1);
        x.term(1, 0, 2);
        Due.same("with 2", x.intervals(), 0);
    }

    private static void promise14() {
        FlowParts x = columns(4, 0, 1, 0);
        Due.same("without rows", x.nature(), FlowParts.NONE);
        rows(x, 4, 0, 0);
        x.term(3, 3, -1);
        Due.same("units", x.nature(), FlowParts.NONE);
        x.term(1, 0, 1);
        x.term(2, 0, 1);
        x.term(2, 1, 1);
        x.term(3, 1, 1);
        x.term(1, 2, 1);
        x.term(3, 2, 1);
        Due.same("an odd ring of rows 1, 2, 3", x.nature(), 14);
        x.term(2, 3, 2);
        Due.same("a 2 in row 2", x.nature(), 4);
        x.term(2, 3, 0);
        x.term(1, 2, -1);
        Due.same("the ring with one turned", x.nature(), FlowParts.NONE);
        x.term(0, 0, 1);
        x.term(0, 1, 1);
        x.term(0, 2, 1);
        Due.same("rows 0 and 1 can be neither added nor taken away", x.nature(), 3);
    }

    private static FlowParts sack(int right) {
        FlowParts x = columns(2, 0, 5, -1);
        x.row(0, right);
        x.term(0, 0, 2);
        x.term(0, 1, 100);
        return x;
    }

    private static void promise15() {
        Due.same("a knapsack", asInt(sack(300).knapsack()), 1);
        Due.same("right 0", asInt(sack(0).knapsack()), 1);
        Due.same("right 301", asInt(sack(301).knapsack()), 0);
        Due.same("right -1", asInt(sack(-1).knapsack()), 0);
        FlowParts x = sack(9);
        x.bounds(0, -1, 5);
        Due.same("a low below 0", asInt(x.knapsack()), 0);
        x.bounds(0, 0, 0);
        x.term(0, 1, 0);
        Due.same("a coefficient 0", asInt(x.knapsack()), 0);
        x.term(0, 1, -1);
        Due.same("a coefficient below 0", asInt(x.knapsack()), 0);
        x.term(0, 1, 1);
        Due.same("high 0", asInt(x.knapsack()), 1);
        x.row(0, 9);
        Due.same("two rows", asInt(x.knapsack()), 0);
        x.clear();
        Due.same("no row", asInt(x.knapsack()), 0);
        x.row(1, 9);
        Due.same("a row of kind 1", asInt(x.knapsack()), 0);
        x.clear();
        x.row(0, 9);
        Due.same("a row without columns", asInt(x.knapsack()), 1);
    }

    private static FlowParts pairs() {
        FlowParts x = columns(2, 0, 1, -1);
        x.row(0, 1);
        x.row(1, 1);
        x.term(0, 0, 1);
        x.term(1, 0, 1);
        x.term(1, 1, 1);
        return x;
    }

    private static void promise16() {
        FlowParts x = pairs();
        Due.same("a matching", asInt(x.matching()), 1);
        x.bounds(1, 0, 2);
        Due.same("a high of 2", asInt(x.matching()), 0);
        x.bounds(1, 1, 1);
        Due.same("a low of 1", asInt(x.matching()), 0);
        x.bounds(1, 0, 1);
        x.right(0, 0);
        Due.same("a right of 0", asInt(x.matching()), 0);
        x.right(0, 1);
        x.term(1, 1, -1);
        Due.same("a flow with -1", x.flow(), FlowParts.NONE);
        Due.same("a coefficient -1", asInt(x.matching()), 0);
        x.term(1, 1, 0);
        Due.same("a column without terms", asInt(x.matching()), 1);
        x.term(1, 1, 1);
        x.row(0, 1);
        x.term(2, 0, 1);
        Due.same("no flow", asInt(x.matching()), 0);
    }

    private static FlowParts road() {
        FlowParts x = columns(2, 0, 1, 3);
        rows(x, 3, 1, 0);
        arc(x, 0, 0, 1);
        arc(x, 1, 1, 2);
        x.right(0, -1);
        x.right(2, 1);
        return x;
    }

    private static void promise17() {
        FlowParts x = road();
        Due.same("a way", asInt(x.way()), 1);
        x.bounds(0, 0, 1000);
        x.cost(0, 0);
        Due.same("a wide one", asInt(x.way()), 1);
        x.cost(0, -1);
        Due.same("a cost below 0", asInt(x.way()), 0);
        x.cost(0, 1);
        x.bounds(0, 0, 0);
        Due.same("a high of 0", asInt(x.way()), 0);
        x.bounds(0, -1, 1);
        Due.same("a low below 0", asInt(x.way()), 0);
        x.bounds(0, 0, 1);
        x.right(1, 1);
        Due.same("two ends", asInt(x.way()), 0);
        x.right(1, -1);
        Due.same("two starts", asInt(x.way()), 0);
        x.right(1, 0);
        x.right(2, 0);
        Due.same("no end", asInt(x.way()), 0);
        x.right(2, 2);
        Due.same("an end of 2", asInt(x.way()), 0);
        x.right(2, 1);
        x.term(2, 1, 0);
        Due.same("a column with one term", asInt(x.way()), 0);
        x.term(2, 1, 1);
        x.row(1, 0);
        Due.same("a row by itself", asInt(x.way()), 1);
        x.row(0, 0);
        Due.same("a row of kind 0", asInt(x.way()), 0);
        x.term(3, 1, 1);
        Due.same("no flow", asInt(x.way()), 0);
    }

    private static void promise17Signs() {
        FlowParts x = road();
        x.term(1, 0, -1);
        x.term(1, 1, 1);
        Due.same("row 1 turned", x.sign(1), -1);
        Due.same("it is still a way", asInt(x.way()), 1);
        x.right(0, 0);
        x.right(1, 1);
        Due.same("right times sign counts", asInt(x.way()), 1);
        x.right(1, -1);
        Due.same("not right alone", asInt(x.way()), 0);
        FlowParts y = columns(2, 0, 1, 0);
        rows(y, 4, 1, 0);
        arc(y, 0, 0, 1);
        arc(y, 1, 2, 3);
        y.right(0, -1);
        y.right(3, 1);
        Due.same("ends of two parts", asInt(y.way()), 0);
    }

    private static void promise18() {
        FlowParts x = sack(7);
        Due.same("a knapsack", x.solve(), 1);
        x.right(0, -1);
        Due.same("neither", x.solve(), FlowParts.NONE);
        nothingSolved("neither", x);
        x.clear();
        x.row(1, 1);
        Due.same("no point", x.solve(), 0);
        Due.fails("no point, value()", STATE, x::value);
        Due.fails("no point, at(0)", STATE, () -> x.at(0));
        Due.fails("no point, sum(0)", STATE, () -> x.sum(0));
        Due.fails("no point, price(0)", STATE, () -> x.price(0));
        Due.fails("no point, reduced(0)", STATE, () -> x.reduced(0));
        Due.same("no point again", x.solve(), 0);
        x.right(0, 0);
        Due.same("one point", x.solve(), 1);
        Due.fails("one point, proof()", STATE, x::proof);
        Due.fails("one point, side()", STATE, x::side);
    }

    private static void promise19() {
        FlowParts x = columns(3, -2, 2, 0);
        x.row(1, 1);
        for (int column = 0; column < 3; column++) {
            x.term(0, column, 1);
        }
        x.solve();
        int[] want = {-2, 1, 2};
        for (int column = 0; column < 3; column++) {
            Due.same("the first of equals, at(" + column + ")", x.at(column), want[column]);
        }
        Due.fails("at(3)", INDEX, () -> x.at(3));
        Due.fails("at(-1)", INDEX, () -> x.at(-1));
        x.cost(0, 0);
        Due.fails("at(0) when nothing is solved", STATE, () -> x.at(0));
        Due.fails("at(3) when nothing is solved", STATE, () -> x.at(3));
        FlowParts y = columns(2, 0, 4, -3);
        y.row(0, 6);
        y.term(0, 0, 2);
        y.term(0, 1, 2);
        y.solve();
        Due.same("a knapsack's first of equals", y.at(0), 0);
        Due.same("and the rest", y.at(1), 3);
    }

    private static void promises20And21() {
        FlowParts x = columns(10, -1000, 1000, 1000);
        x.solve();
        Due.same("value()", x.value(), -10000000);
        Due.fails("sum(0)", INDEX, () -> x.sum(0));
        rows(x, 2, 0, 100000);
        for (int column = 0; column < 10; column++) {
            x.term(1, column, -1);
        }
        Due.fails("value() of nothing", STATE, x::value);
        Due.fails("sum(0) of nothing", STATE, () -> x.sum(0));
        Due.fails("sum(2) of nothing", STATE, () -> x.sum(2));
        x.solve();
        Due.same("sum(0)", x.sum(0), 0);
        Due.same("sum(1)", x.sum(1), 10000);
        Due.fails("sum(2)", INDEX, () -> x.sum(2));
        Due.fails("sum(-1)", INDEX, () -> x.sum(-1));
        FlowParts y = sack(207);
        y.solve();
        Due.same("a knapsack's value()", y.value(), -6);
        Due.same("a knapsack's sum(0)", y.sum(0), 110);
    }

    private static void promises22And23() {
        FlowParts x = road();
        x.solve();
        int[] prices = {0, 3, 6};
        for (int row = 0; row < 3; row++) {
            Due.same("columns at high, price(" + row + ")", x.price(row), prices[row]);
        }
        x.bounds(0, 0, 2);
        x.bounds(1, 0, 2);
        x.cost(1, -1);
        x.solve();
        Due.same("price(1)", x.price(1), 3);
        Due.same("price(2)", x.price(2), 2);
        Due.same("reduced(0)", x.reduced(0), 0);
        Due.same("reduced(1)", x.reduced(1), 0);
        Due.fails("price(3)", INDEX, () -> x.price(3));
        Due.fails("price(-1)", INDEX, () -> x.price(-1));
        Due.fails("reduced(2)", INDEX, () -> x.reduced(2));
        Due.fails("reduced(-1)", INDEX, () -> x.reduced(-1));
        FlowParts y = sack(207);
        y.solve();
        Due.fails("a knapsack's price(0)", STATE, () -> y.price(0));
        Due.fails("a knapsack's price(1)", STATE, () -> y.price(1));
        Due.fails("a knapsack's reduced(0)", STATE, () -> y.reduced(0));
        Due.fails("a knapsack's reduced(2)", STATE, () -> y.reduced(2));
        y.term(0, 0, 1);
        y.term(0, 1, 1);
        y.right(0, 7);
        y.cost(1, -4);
        Due.same("a knapsack that is a flow", y.solve(), 1);
        Due.same("its at(1)", y.at(1), 5);
        Due.same("its price(0)", y.price(0), -1);
        Due.same("its reduced(1)", y.reduced(1), -3);
        y.right(0, 11);
        y.solve();
        Due.same("a row that is not full has price 0", y.price(0), 0);
        Due.same("reduced(0) is the cost then", y.reduced(0), -1);
    }

    private static void promises24And25() {
        FlowParts x = columns(1, 0, 5, 0);
        rows(x, 3, 1, 0);
        arc(x, 0, 1, 2);
        x.right(1, -7);
        x.right(2, 6);
        Due.same("solve()", x.solve(), 0);
        Due.same("the least set: row 1", x.proof(), 2);
        Due.same("SIDE 1", x.side(), 1);
        x.right(1, 0);
        Due.same("row 1 wants none, row 2 wants 6", x.solve(), 0);
        Due.same("row 2", x.proof(), 4);
        Due.same("its side", x.side(), -1);
        x.right(1, -4);
        x.right(2, 5);
        Due.same("4 come and 5 go", x.solve(), 0);
        Due.same("rows 1 and 2", x.proof(), 6);
        Due.same("their side", x.side(), -1);
        x.right(2, 3);
        x.solve();
        Due.same("4 come and 3 go", x.side(), 1);
        x.right(2, 4);
        Due.same("as many", x.solve(), 1);
        Due.fails("proof()", STATE, x::proof);
        Due.fails("side()", STATE, x::side);
    }

    private static void promise24Kinds() {
        FlowParts x = columns(1, 1, 2, 0);
        x.row(0, 0);
        x.row(0, -2);
        x.term(0, 0, -1);
        x.term(1, 0, -1);
        Due.same("at least 2, by a row of sign -1", x.solve(), 1);
        Due.same("sign(1)", x.sign(1), -1);
        x.right(1, -3);
        Due.same("at least 3", x.solve(), 0);
        Due.same("row 1 by itself", x.proof(), 2);
        Due.same("side is its sign", x.side(), -1);
    }

    /** Eight rows and ten columns: a ring of arcs 0 to 1, 1 to 2, .. 7 to 0, and two arcs back. */
    private static FlowParts fullRing() {
        FlowParts x = columns(10, 0, 1, 1);
        rows(x, 8, 1, 0);
        for (int column = 0; column < 8; column++) {
            arc(x, column, column, (column + 1) % 8);
        }
        arc(x, 8, 7, 6);
        arc(x, 9, 7, 0);
        return x;
    }

    private static void fullWhole() {
        FlowParts x = fullRing();
        Due.same("full, parts()", x.parts(), 1);
        Due.same("full, part(7)", x.part(7), 0);
        Due.same("full, flow()", x.flow(), FlowParts.NONE);
        Due.same("full, sign(7)", x.sign(7), 1);
        Due.same("full, nature()", x.nature(), FlowParts.NONE);
        Due.same("full, intervals()", x.intervals(), 0);
        Due.same("full, knapsack()", asInt(x.knapsack()), 0);
        Due.same("full, matching()", asInt(x.matching()), 0);
        x.right(7, 1);
        x.right(0, -1);
        Due.same("full, way()", asInt(x.way()), 1);
        Due.same("full, solve()", x.solve(), 1);
        Due.same("full, value()", x.value(), 7);
        Due.same("full, at(9)", x.at(9), 0);
        Due.same("full, sum(7)", x.sum(7), 1);
        Due.same("full, price(7)", x.price(7), 7);
        Due.same("full, reduced(9)", x.reduced(9), 8);
        x.right(7, 2);
        x.right(0, -2);
        Due.same("full, two at once", x.solve(), 0);
        Due.same("full, proof()", x.proof(), 1);
        x.right(0, 0);
        x.right(7, 1);
        Due.same("full, one too much", x.solve(), 0);
        Due.same("full, all rows prove it", x.proof(), 255);
        Due.same("full, their side", x.side(), -1);
    }

    private static void fullTable() {
        FlowParts x = columns(10, 0, 1, -1);
        rows(x, 8, 0, 1);
        for (int column = 0; column < 8; column++) {
            x.term(column, column, 1);
        }
        x.term(6, 9, 1);
        x.term(7, 9, 1);
        Due.same("full table, matching()", asInt(x.matching()), 1);
        Due.same("full table, intervals()", x.intervals(), FlowParts.NONE);
        Due.same("full table, nature()", x.nature(), FlowParts.NONE);
        Due.same("full table, parts()", x.parts(), 7);
        Due.same("full table, solve()", x.solve(), 1);
        Due.same("full table, value()", x.value(), -9);
        Due.same("full table, price(7)", x.price(7), -1);
        x.term(0, 9, 1);
        Due.same("full table, then intervals()", x.intervals(), 9);
        Due.same("full table, then flow()", x.flow(), 9);
        x.term(7, 9, 2);
        Due.same("full table, then nature()", x.nature(), 128);
    }

    private static void fullSack() {
        FlowParts x = columns(10, 0, 1000, -1);
        x.row(0, 300);
        for (int column = 0; column < 10; column++) {
            x.term(0, column, column == 0 ? 100 : 1);
        }
        Due.same("full sack, solve()", x.solve(), 1);
        Due.same("full sack, at(0)", x.at(0), 0);
        Due.same("full sack, at(9)", x.at(9), 300);
        Due.same("full sack, value()", x.value(), -300);
    }

    private static void changesEndSolved() {
        String[] names = {"column", "row", "term", "bounds", "cost", "right", "clear"};
        for (int change = 0; change < names.length; change++) {
            FlowParts x = road();
            x.solve();
            changeNothing(x, change);
            nothingSolved(names[change], x);
            FlowParts y = road();
            y.right(1, 1);
            y.solve();
            changeNothing(y, change);
            Due.fails(names[change] + ", proof() before", STATE, y::proof);
            Due.fails(names[change] + ", side() before", STATE, y::side);
        }
    }

    /** The same numbers told anew are a change too. */
    private static void changeNothing(FlowParts x, int change) {
        switch (change) {
            case 0: x.column(0, 0, 0); break;
            case 1: x.row(0, 0); break;
            case 2: x.term(0, 0, -1); break;
            case 3: x.bounds(0, 0, 1); break;
            case 4: x.cost(0, 3); break;
            case 5: x.right(0, -1); break;
            default: x.clear();
        }
    }

    private static void throwsChangeNothing() {
        FlowParts x = road();
        x.solve();
        Due.fails("a wrong column", ARGUMENT, () -> x.column(1, 0, 0));
        Due.fails("a wrong row", ARGUMENT, () -> x.row(3, 0));
        Due.fails("a wrong term", ARGUMENT, () -> x.term(0, 0, 1000));
        Due.fails("wrong bounds", ARGUMENT, () -> x.bounds(0, 5, 4));
        Due.fails("a wrong cost", ARGUMENT, () -> x.cost(0, 1001));
        Due.fails("a wrong right", ARGUMENT, () -> x.right(0, 100001));
        Due.fails("a term of no row", INDEX, () -> x.term(3, 0, 1));
        Due.fails("bounds of no column", INDEX, () -> x.bounds(2, 0, 1));
        Due.fails("a cost of no column", INDEX, () -> x.cost(2, 0));
        Due.fails("a right of no row", INDEX, () -> x.right(3, 0));
        Due.same("still solved", x.value(), 6);
        Due.same("with the same point", x.at(1), 1);
        x.flow();
        x.nature();
        x.parts();
        Due.same("questions change nothing", x.price(2), 6);
        Due.same("nor does solving again", x.solve(), 1);
        Due.same("the same cost", x.cost(0, 3), 3);
        Due.same("the same right", x.right(0, -1), -1);
        Due.same("as many columns", x.clear(), 2);
    }

    public static void main(String[] args) {
        promise1();
        promise2();
        promise3();
        promise4();
        promise5();
        promise6();
        promise7();
        promise8();
        promises9And10();
        promise11();
        promise12();
        promise13();
        promise14();
        promise15();
        promise16();
        promise17();
        promise17Signs();
        promise18();
        promise19();
        promises20And21();
        promises22And23();
        promises24And25();
        promise24Kinds();
        fullWhole();
        fullTable();
        fullSack();
        changesEndSolved();
        throwsChangeNothing();
        Due.end();
    }
}
