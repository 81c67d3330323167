/** The sentences of "3 SOLVED" and of promises 18 to 25 that name a boundary, one test each. */
public final class BoundarySolvedTest {
    private static final int NONE = FlowParts.NONE;

    private BoundarySolvedTest() {
    }

    /** One column in one row with coefficient 1, solved. */
    private static FlowParts one(int low, int high, int cost, int kind, int right) {
        FlowParts x = Told.whole(new int[][] {{low, high, cost}}, new int[][] {{kind, right, 1}});
        x.solve();
        return x;
    }

    private static void points(String name, FlowParts x, int... want) {
        for (int column = 0; column < want.length; column++) {
            Due.same(name + ", at(" + column + ")", x.at(column), want[column]);
        }
    }

    private static void prices(String name, FlowParts x, int... want) {
        for (int row = 0; row < want.length; row++) {
            Due.same(name + ", price(" + row + ")", x.price(row), want[row]);
        }
    }

    private static void flowOrElseKnapsack() {
        Due.about("SOLVED is a FLOW, or else a KNAPSACK");
        int[] rights = {-1, 0, 300, 301};
        for (int right : rights) {
            FlowParts x = Told.whole(Told.same(2, 0, 5, -1), new int[][] {{0, right, 1, 2}});
            boolean sack = right >= 0 && right <= 300;
            Due.same("a knapsack with right " + right, x.solve(), sack ? 1 : NONE);
            FlowParts y = Told.whole(Told.same(2, 0, 5, -1), new int[][] {{0, right, 1, 1}});
            Due.same("a flow with right " + right, y.solve(), right < 0 ? 0 : 1);
        }
        FlowParts both = Told.whole(Told.same(2, 0, 5, -1), new int[][] {{0, 7, 1, 1}});
        Due.same("both: knapsack()", Told.asInt(both.knapsack()), 1);
        Due.same("both: flow()", both.flow(), NONE);
        both.solve();
        points("both", both, 2, 5);
        prices("both", both, -1);
    }

    private static void neither() {
        Due.about("NONE: it is neither a FLOW nor a KNAPSACK (then nothing is SOLVED)");
        FlowParts x = Told.whole(Told.same(1, 0, 5, 1), new int[][] {{1, 4, 2}});
        Due.same("solve()", x.solve(), NONE);
        Due.fails("at(0)", Told.STATE, () -> x.at(0));
        Due.fails("at(1)", Told.STATE, () -> x.at(1));
        Due.fails("value()", Told.STATE, x::value);
        Due.fails("sum(0)", Told.STATE, () -> x.sum(0));
        Due.fails("sum(1)", Told.STATE, () -> x.sum(1));
        Due.fails("price(0)", Told.STATE, () -> x.price(0));
        Due.fails("price(1)", Told.STATE, () -> x.price(1));
        Due.fails("reduced(0)", Told.STATE, () -> x.reduced(0));
        Due.fails("reduced(1)", Told.STATE, () -> x.reduced(1));
        Due.fails("proof()", Told.STATE, x::proof);
        Due.fails("side()", Told.STATE, x::side);
        x.term(0, 0, 1);
        Due.same("a flow then", x.solve(), 1);
        x.term(0, 0, 2);
        Due.same("none again", x.solve(), NONE);
        Due.fails("none again, value()", Told.STATE, x::value);
    }

    private static void solvedAgain() {
        Due.about("It is SOLVED, as often as it is asked");
        FlowParts best = one(0, 5, 3, 1, 4);
        String before = Told.answers(best);
        Due.same("a best again", best.solve(), 1);
        Due.same("the same answers", Told.answers(best), before);
        FlowParts none = one(0, 5, 3, 1, 6);
        String why = Told.answers(none);
        Due.same("none again", none.solve(), 0);
        Due.same("the same proof", Told.answers(none), why);
        none.right(0, 5);
        Due.same("a best then", none.solve(), 1);
        Due.fails("no proof is left", Told.STATE, none::proof);
        best.right(0, 6);
        Due.same("no point then", best.solve(), 0);
        Due.fails("no best is left", Told.STATE, () -> best.at(0));
    }

    private static void refusedWithBest() {
        Due.about("IllegalStateException: nothing is SOLVED with a BEST; IndexOutOfBoundsException");
        FlowParts x = one(0, 5, 3, 1, 4);
        int[] wrong = {Integer.MIN_VALUE, -1, 1, 8, 10, Integer.MAX_VALUE};
        for (int number : wrong) {
            Due.fails("at(" + number + ")", Told.INDEX, () -> x.at(number));
            Due.fails("sum(" + number + ")", Told.INDEX, () -> x.sum(number));
            Due.fails("price(" + number + ")", Told.INDEX, () -> x.price(number));
            Due.fails("reduced(" + number + ")", Told.INDEX, () -> x.reduced(number));
        }
        Due.fails("proof()", Told.STATE, x::proof);
        Due.fails("side()", Told.STATE, x::side);
        Due.same("at(0) after all that", x.at(0), 4);
    }

    private static void refusedWithoutPoint() {
        Due.about("IllegalStateException: nothing is SOLVED with a BEST, when no POINT FITS");
        FlowParts x = one(0, 5, 3, 1, 6);
        Due.fails("value()", Told.STATE, x::value);
        for (int k = -1; k <= 1; k++) {
            int number = k;
            Due.fails("at(" + number + ")", Told.STATE, () -> x.at(number));
            Due.fails("sum(" + number + ")", Told.STATE, () -> x.sum(number));
            Due.fails("price(" + number + ")", Told.STATE, () -> x.price(number));
            Due.fails("reduced(" + number + ")", Told.STATE, () -> x.reduced(number));
        }
        Due.same("proof() after all that", x.proof(), 1);
        Due.same("side() after all that", x.side(), -1);
    }

    private static void refusedForKnapsack() {
        Due.about("IllegalStateException: or it is no FLOW");
        FlowParts x = Told.whole(Told.same(1, 0, 5, -3), new int[][] {{0, 9, 2}});
        x.solve();
        for (int k = -1; k <= 1; k++) {
            int number = k;
            Due.fails("price(" + number + ")", Told.STATE, () -> x.price(number));
            Due.fails("reduced(" + number + ")", Told.STATE, () -> x.reduced(number));
        }
        Due.fails("at(1)", Told.INDEX, () -> x.at(1));
        Due.fails("sum(1)", Told.INDEX, () -> x.sum(1));
        Due.fails("proof()", Told.STATE, x::proof);
        Due.same("at(0)", x.at(0), 4);
        Due.same("sum(0)", x.sum(0), 8);
        Due.same("value()", x.value(), -12);
    }

    private static void farthestBest() {
        Due.about("the BEST's numbers, VALUE and SUMS at the limits");
        for (int side = -1; side <= 1; side += 2) {
            int[][] rows = {{0, 100000, 1, 1, 1, 1, 1, 1, 1, 1, 1, 1}};
            FlowParts x = Told.whole(Told.same(10, -1000, 1000, -1000 * side), rows);
            Due.same("solve()", x.solve(), 1);
            Due.same("at(9)", x.at(9), 1000 * side);
            Due.same("value()", x.value(), -10000000);
            Due.same("sum(0)", x.sum(0), 10000 * side);
            Due.same("price(0)", x.price(0), 0);
            Due.same("reduced(9)", x.reduced(9), -1000 * side);
            FlowParts y = Told.whole(Told.same(10, 1000 * side, 1000 * side, 1000 * side), new int[0][]);
            y.solve();
            Due.same("the greatest value()", y.value(), 10000000);
        }
    }

    private static void fullWhole() {
        Due.about("10 columns and 8 rows of KIND 0 are SOLVED");
        FlowParts x = Told.whole(Told.same(10, 0, 1000, -1000), Told.same(8, 0, 100000));
        for (int column = 0; column < 10; column++) {
            x.term(column % 8, column, 1);
            x.term((column + 1) % 8, column, -1);
        }
        Due.same("solve()", x.solve(), 1);
        Due.same("value()", x.value(), -10000000);
        Due.same("sum(0)", x.sum(0), 1000);
        Due.same("sum(2)", x.sum(2), -1000);
        Due.same("price(7)", x.price(7), 0);
        for (int row = 0; row < 8; row++) {
            x.right(row, row == 7 ? -1 : 0);
        }
        Due.same("the sums of a ring add up to 0, not to -1", x.solve(), 0);
        Due.same("proof()", x.proof(), 255);
        Due.same("side()", x.side(), 1);
        x.right(7, 0);
        Due.same("all rights 0", x.solve(), 1);
        Due.same("all sums are 0 then", x.sum(7), 0);
        // Columns 0 and 8 go from row 1 to row 0, columns 1 and 9 from row 2 to row 1.
        points("all rights 0", x, 0, 0, 1000, 1000, 1000, 1000, 1000, 1000, 1000, 1000);
    }

    private static void fullSums() {
        Due.about("a row HOLDS at its RIGHT, with all columns at a bound");
        int[][] numbers = {{10000, 1}, {10001, 0}, {-10000, 1}, {-10001, 0}};
        for (int[] number : numbers) {
            int[][] rows = {{1, number[0], 1, 1, 1, 1, 1, 1, 1, 1, 1, 1}};
            FlowParts x = Told.whole(Told.same(10, -1000, 1000, 1), rows);
            Due.same("a right of " + number[0], x.solve(), number[1]);
            FlowParts y = Told.whole(Told.same(10, -1000, 1000, 1), rows);
            for (int column = 0; column < 10; column++) {
                y.term(0, column, -1);
            }
            Due.same("with coefficients -1", y.solve(), number[1]);
        }
    }

    private static void lastColumnsOfEquals() {
        Due.about("of these the first by column 0, 1, .. up to the last of 10 columns");
        int[][] rows = {{1, 1, 1, 1, 1, 1, 1, 1, 1, 1, 1, 1}};
        FlowParts x = Told.whole(Told.same(10, 0, 1, 0), rows);
        x.solve();
        points("one of ten", x, 0, 0, 0, 0, 0, 0, 0, 0, 0, 1);
        x.right(0, 2);
        x.solve();
        points("two of ten", x, 0, 0, 0, 0, 0, 0, 0, 0, 1, 1);
        FlowParts y = Told.whole(Told.same(10, -7, 7, 0), new int[][] {{0, 70, 1, 1, 1, 1, 1, 1, 1, 1, 1, 1}});
        y.solve();
        points("cost 0 in a row that leaves all free", y, -7, -7, -7, -7, -7, -7, -7, -7, -7, -7);
        FlowParts z = Told.whole(Told.same(10, -7, 7, 0), new int[0][]);
        z.solve();
        points("cost 0 without rows", z, -7, -7, -7, -7, -7, -7, -7, -7, -7, -7);
        int[][] apart = {{1, 0, 0, 0, 0, 0, 0, 0, 0, 0, 1, -1}};
        FlowParts pair = Told.whole(Told.same(10, -7, 7, 0), apart);
        pair.solve();
        Due.same("columns 8 and 9 both low, at(8)", pair.at(8), -7);
        Due.same("columns 8 and 9 both low, at(9)", pair.at(9), -7);
        pair.term(0, 9, 1);
        pair.solve();
        Due.same("column 8 low, at(8)", pair.at(8), -7);
        Due.same("so column 9 high, at(9)", pair.at(9), 7);
    }

    /** From nowhere through rows 0 .. 7 to nowhere by columns 0 .. 8: all of them have one number. */
    private static FlowParts pipe(int firstCost, int lastCost) {
        FlowParts x = Told.whole(Told.same(9, -1000, 1000, 0), Told.same(8, 1, 0));
        for (int row = 0; row < 8; row++) {
            x.term(row, row, 1);
            x.term(row, row + 1, -1);
        }
        x.cost(0, firstCost);
        x.cost(8, lastCost);
        x.solve();
        return x;
    }

    private static void valueBeforeOrder() {
        Due.about("the one of the least VALUE, of these the first");
        Due.same("cost -1 in the first column", pipe(-1, 0).at(8), 1000);
        Due.same("cost -1 in the last column", pipe(0, -1).at(0), 1000);
        Due.same("costs 1000 and -1000", pipe(1000, -1000).at(0), -1000);
        Due.same("costs 999 and -1000", pipe(999, -1000).at(0), 1000);
        Due.same("costs -1000 and 999", pipe(-1000, 999).at(0), 1000);
        Due.same("no costs", pipe(0, 0).at(0), -1000);
    }

    private static int fill(int right, int a, int high, int cost) {
        int[][] columns = {{0, high, cost}, {0, 0, 0}};
        FlowParts x = Told.whole(columns, new int[][] {{0, right, a, 100}});
        Due.same("solve()", x.solve(), 1);
        Due.same("value()", x.value(), x.at(0) * cost);
        Due.same("sum(0)", x.sum(0), x.at(0) * a);
        return x.at(0);
    }

    private static void knapsackNumbers() {
        Due.about("A KNAPSACK's BEST at the limits of its RIGHT, coefficients, HIGHS and COSTS");
        Due.same("right 0", fill(0, 1, 1000, -1000), 0);
        Due.same("right 300, coefficient 1", fill(300, 1, 1000, -1000), 300);
        Due.same("right 300, coefficient 1, high 299", fill(300, 1, 299, -1), 299);
        Due.same("right 300, coefficient 1, high 300", fill(300, 1, 300, -1), 300);
        Due.same("right 300, coefficient 100", fill(300, 100, 1000, -1), 3);
        Due.same("right 299, coefficient 100", fill(299, 100, 1000, -1), 2);
        Due.same("right 99, coefficient 100", fill(99, 100, 1000, -1000), 0);
        Due.same("right 100, coefficient 100", fill(100, 100, 1000, -1000), 1);
        Due.same("high 0", fill(300, 2, 0, -1000), 0);
        Due.same("cost 0", fill(300, 2, 1000, 0), 0);
        Due.same("cost 1000", fill(300, 2, 1000, 1000), 0);
    }

    private static void knapsackOfEquals() {
        Due.about("A KNAPSACK's BEST is the first by its columns, up to the last of 10 columns");
        int[][] rows = {{0, 4, 2, 2, 2, 2, 2, 2, 2, 2, 2, 2}};
        FlowParts x = Told.whole(Told.same(10, 0, 1, -5), rows);
        x.solve();
        points("two of ten", x, 0, 0, 0, 0, 0, 0, 0, 0, 1, 1);
        FlowParts y = Told.whole(new int[][] {{0, 9, -4}, {0, 9, -2}}, new int[][] {{0, 5, 2, 1}});
        y.solve();
        points("the same value by either column", y, 0, 5);
        FlowParts z = Told.whole(new int[][] {{0, 9, -5}, {0, 9, -2}}, new int[][] {{0, 5, 2, 1}});
        z.solve();
        points("a little more by the first", z, 2, 1);
        FlowParts free = Told.whole(new int[][] {{0, 9, 0}, {0, 9, 0}}, new int[][] {{0, 5, 2, 1}});
        free.solve();
        points("no costs", free, 0, 0);
    }

    private static void knapsackAnew() {
        Due.about("Bounds, costs and right sides may change, then it is solved anew");
        FlowParts x = Told.whole(Told.same(2, 0, 5, -3), new int[][] {{0, 300, 2, 3}});
        x.solve();
        points("room for all", x, 5, 5);
        x.right(0, 0);
        x.solve();
        points("no room", x, 0, 0);
        x.right(0, 12);
        x.solve();
        points("room for twelve: the first of equals", x, 3, 2);
        x.cost(1, -5);
        x.solve();
        points("the second dearer", x, 0, 4);
        x.bounds(1, 0, 1);
        x.solve();
        points("the second once at most", x, 4, 1);
        x.bounds(1, 1, 1);
        Due.same("a low of 1", x.solve(), NONE);
    }

    private static void priceByBound() {
        Due.about("a column with D above 0 is at its LOW, one with D below 0 at its HIGH");
        prices("at the low, cost 7", one(0, 5, 7, 1, 0), 0);
        prices("at the low, cost -7", one(0, 5, -7, 1, 0), -7);
        prices("one above the low, cost 7", one(0, 5, 7, 1, 1), 7);
        prices("one above the low, cost -7", one(0, 5, -7, 1, 1), -7);
        prices("one below the high, cost 7", one(0, 5, 7, 1, 4), 7);
        prices("at the high, cost 7", one(0, 5, 7, 1, 5), 7);
        prices("at the high, cost -7", one(0, 5, -7, 1, 5), 0);
        prices("between, cost 1", one(0, 5, 1, 1, 3), 1);
        prices("between, cost -1", one(0, 5, -1, 1, 3), -1);
        prices("between, cost 0", one(0, 5, 0, 1, 3), 0);
        prices("low is high, cost 7", one(5, 5, 7, 1, 5), 0);
        prices("low is high, cost -7", one(5, 5, -7, 1, 5), 0);
        Due.same("low is high, reduced(0)", one(5, 5, -7, 1, 5).reduced(0), -7);
        Due.same("at the low, reduced(0)", one(0, 5, 7, 1, 0).reduced(0), 7);
        Due.same("at the high, reduced(0)", one(0, 5, -7, 1, 5).reduced(0), -7);
        Due.same("between, reduced(0)", one(0, 5, 7, 1, 3).reduced(0), 0);
    }

    private static void priceOfKind0() {
        Due.about("a PRICE of a row of KIND 0 is not above 0, and is 0 if its SUM is below RIGHT");
        prices("the sum one below right", one(0, 5, -7, 0, 6), 0);
        prices("the sum at right, the column at its high", one(0, 5, -7, 0, 5), 0);
        prices("the sum at right, the column below its high", one(0, 5, -7, 0, 4), -7);
        prices("the sum at right, the column at its low", one(0, 5, -7, 0, 0), -7);
        prices("the sum at right 0, cost 7", one(0, 5, 7, 0, 0), 0);
        prices("the sum below right, cost 7", one(0, 5, 7, 0, 1), 0);
        int[][] rows = {{1, 3, 1, 0}, {0, -2, -1, -1}};
        FlowParts x = Told.whole(new int[][] {{3, 3, 0}, {-5, 5, 1}}, rows);
        x.solve();
        points("a row of kind 0, turned", x, 3, -1);
        prices("a row of kind 0, turned", x, 0, -1);
    }

    private static void turnedKind0() {
        Due.about("a PRICE of a row of KIND 0 whose SIGN is -1 is not above 0 either");
        FlowParts x = Told.whole(Told.same(1, 0, 5, 4), new int[][] {{1, -2, -1}, {0, -2, -1}});
        Due.same("solve()", x.solve(), 1);
        Due.same("sign(1)", x.sign(1), -1);
        prices("row 0 is 0, row 1 pays", x, 0, -4);
        x.cost(0, -4);
        x.solve();
        prices("row 1 may not be above 0, so row 0 pays", x, 4, 0);
        x.cost(0, 4);
        x.right(1, -1);
        x.solve();
        prices("row 1's sum is one below its right, so row 0 pays", x, -4, 0);
        FlowParts y = Told.whole(Told.same(1, 0, 5, 4), new int[][] {{0, 0, -1}, {0, -2, -1}});
        Due.same("solve()", y.solve(), 1);
        prices("the second row is the one that is full", y, 0, -4);
    }

    private static void rowByRow() {
        Due.about("row by row, from 0 on, that number nearest to 0 for which there still are PRICES");
        FlowParts x = Told.whole(Told.same(1, 0, 9, 4), new int[][] {{1, -5, -1}, {1, 5, 1}});
        x.solve();
        prices("row 0 is 0 and row 1 pays", x, 0, 4);
        FlowParts y = Told.whole(Told.same(1, 0, 9, 4), new int[][] {{1, 5, 1}, {1, -5, -1}});
        y.solve();
        prices("the rows changed", y, 0, -4);
        FlowParts z = Told.whole(Told.same(1, 0, 9, 4), new int[][] {{1, -5, -1}, {0, 5, 1}});
        z.solve();
        prices("row 1 may not be above 0, so row 0 pays", z, -4, 0);
        FlowParts alone = Told.whole(new int[0][], new int[][] {{1, 0}, {0, 0}, {0, 100000}});
        alone.solve();
        prices("rows without terms", alone, 0, 0, 0);
    }

    /** Column 0 from nowhere to row 0, column k from row k - 1 to row k: each row's price adds a cost. */
    private static FlowParts stairs(int cost) {
        int[][] columns = Told.same(10, -1000, 1000, cost);
        columns[8] = new int[] {0, 0, 1000};
        columns[9] = new int[] {0, 0, -1000};
        FlowParts x = Told.whole(columns, Told.same(8, 1, 0));
        for (int row = 0; row < 8; row++) {
            x.term(row, row, 1);
            if (row > 0) {
                x.term(row - 1, row, -1);
            }
        }
        x.term(7, 8, -1);
        x.term(7, 9, -1);
        Due.same("solve()", x.solve(), 1);
        return x;
    }

    private static void farthestPrices() {
        Due.about("PRICES and D as far from 0 as can be");
        FlowParts up = stairs(1000);
        prices("up", up, 1000, 2000, 3000, 4000, 5000, 6000, 7000, 8000);
        Due.same("up, reduced(8)", up.reduced(8), 9000);
        Due.same("up, reduced(7)", up.reduced(7), 0);
        FlowParts down = stairs(-1000);
        prices("down", down, -1000, -2000, -3000, -4000, -5000, -6000, -7000, -8000);
        Due.same("down, reduced(9)", down.reduced(9), -9000);
    }

    private static void proofAbove() {
        Due.about("the least that the sum can be between the columns' bounds is above the sum of their RIGHTS");
        FlowParts over = one(2, 5, 0, 0, 1);
        Due.same("kind 0, one above", over.proof(), 1);
        Due.same("kind 0, side()", over.side(), 1);
        Due.same("kind 0, just as much", one(2, 5, 0, 0, 2).solve(), 1);
        FlowParts least = one(2, 5, 0, 1, 1);
        Due.same("kind 1, below the low", least.side(), 1);
        FlowParts most = one(2, 5, 0, 1, 6);
        Due.same("kind 1, above the high", most.side(), -1);
        Due.same("kind 1, its set", most.proof(), 1);
        Due.same("the least right", one(-1000, 1000, 0, 1, -100000).side(), 1);
        Due.same("the greatest right", one(-1000, 1000, 0, 1, 100000).side(), -1);
    }

    private static void proofWithoutTerms() {
        Due.about("A PROOF by a row without TERMS");
        int[][] told = {{0, -1, 1}, {0, -100000, 1}, {1, -1, 1}, {1, 1, -1}, {1, 100000, -1}};
        for (int[] row : told) {
            for (int number = 0; number < 8; number++) {
                FlowParts x = Told.whole(new int[0][], Told.same(number, 1, 0));
                x.row(row[0], row[1]);
                Due.same("solve()", x.solve(), 0);
                Due.same("kind " + row[0] + ", right " + row[1] + ", proof()", x.proof(), 1 << number);
                Due.same("kind " + row[0] + ", right " + row[1] + ", side()", x.side(), row[2]);
            }
        }
    }

    private static void proofBySigns() {
        Due.about("for all rows of KIND 0 in it SIGN times SIDE is 1");
        FlowParts x = Told.whole(Told.same(1, 0, 5, 0), new int[][] {{0, 9, 1}, {0, -1, 1}});
        Due.same("solve()", x.solve(), 0);
        Due.same("sign(1)", x.sign(1), -1);
        Due.same("row 1 alone", x.proof(), 2);
        Due.same("with its sign", x.side(), -1);
        FlowParts y = Told.whole(Told.same(1, 0, 5, 0), new int[][] {{0, -3, -1}, {0, 2, 1}});
        Due.same("at least 3, at most 2", y.solve(), 0);
        Due.same("both rows", y.proof(), 3);
        Due.same("their side", y.side(), 1);
        y.right(1, 3);
        Due.same("at least 3, at most 3", y.solve(), 1);
        FlowParts z = Told.whole(Told.same(1, 0, 5, 0), new int[][] {{1, -3, -1}, {0, 4, 1}, {1, 2, 0}});
        Due.same("the row of kind 0 has room", z.solve(), 0);
        Due.same("row 2 alone", z.proof(), 4);
        Due.same("row 2's side", z.side(), -1);
    }

    private static void leastProof() {
        Due.about("THE PROOF is the set that is the least number");
        int[][] rows = {{1, -4, -1, 0}, {1, 5, 1, 0}, {1, 9, 0, 1}};
        FlowParts x = Told.whole(Told.same(2, 0, 5, 0), rows);
        Due.same("solve()", x.solve(), 0);
        Due.same("rows 0 and 1 before row 2", x.proof(), 3);
        Due.same("their side", x.side(), -1);
        x.right(1, 4);
        Due.same("solve()", x.solve(), 0);
        Due.same("row 2 then", x.proof(), 4);
        x.right(0, -6);
        Due.same("solve()", x.solve(), 0);
        Due.same("row 0 before all others", x.proof(), 1);
        Due.same("row 0's side", x.side(), 1);
        x.right(0, -5);
        x.right(1, 6);
        Due.same("solve()", x.solve(), 0);
        Due.same("row 1 before rows 0 and 1", x.proof(), 2);
    }

    private static void proofOfAllRows() {
        Due.about("THE PROOF by all 8 rows, and by the last one");
        for (int side = -1; side <= 1; side += 2) {
            FlowParts x = Told.whole(Told.same(7, -10, 10, 1), Told.same(8, 1, 0));
            for (int column = 0; column < 7; column++) {
                x.term(column, column, -1);
                x.term(column + 1, column, 1);
            }
            x.right(7, -side);
            Due.same("solve()", x.solve(), 0);
            Due.same("all rows", x.proof(), 255);
            Due.same("their side", x.side(), side);
            x.right(7, -11 * side);
            x.right(0, 11 * side);
            Due.same("solve()", x.solve(), 0);
            Due.same("the first row", x.proof(), 1);
            x.right(0, 10 * side);
            Due.same("solve()", x.solve(), 0);
            Due.same("the last row", x.proof(), 128);
            Due.same("its side", x.side(), side);
        }
    }

    private static void proofRefused() {
        Due.about("IllegalStateException: it was not SOLVED that no POINT FITS");
        FlowParts x = Told.whole(Told.same(1, 0, 5, 0), new int[][] {{1, 6, 1}});
        Due.fails("proof() before solve()", Told.STATE, x::proof);
        Due.fails("side() before solve()", Told.STATE, x::side);
        x.solve();
        Due.same("proof()", x.proof(), 1);
        x.right(0, 6);
        Due.fails("proof() after a change", Told.STATE, x::proof);
        Due.fails("side() after a change", Told.STATE, x::side);
    }

    public static void main(String[] args) {
        flowOrElseKnapsack();
        neither();
        solvedAgain();
        refusedWithBest();
        refusedWithoutPoint();
        refusedForKnapsack();
        farthestBest();
        fullWhole();
        fullSums();
        lastColumnsOfEquals();
        valueBeforeOrder();
        knapsackNumbers();
        knapsackOfEquals();
        knapsackAnew();
        priceByBound();
        priceOfKind0();
        turnedKind0();
        rowByRow();
        farthestPrices();
        proofAbove();
        proofWithoutTerms();
        proofBySigns();
        leastProof();
        proofOfAllRows();
        proofRefused();
        Due.end();
    }
}
