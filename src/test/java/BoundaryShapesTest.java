/** The sentences of "2 WHAT IT IS" and of promises 9 to 17 that name a boundary, one test each. */
public final class BoundaryShapesTest {
    private static final int NONE = FlowParts.NONE;

    private BoundaryShapesTest() {
    }

    /** Free columns and rows that hold, without coefficients. */
    private static FlowParts blank(int columns, int rows) {
        return Told.whole(Told.same(columns, 0, 1, 0), Told.same(rows, 0, 1));
    }

    private static FlowParts withTerms(int columns, int rows, int[][] terms) {
        FlowParts x = blank(columns, rows);
        for (int[] term : terms) {
            x.term(term[0], term[1], term[2]);
        }
        return x;
    }

    private static void noRows() {
        Due.about("PARTS of no rows");
        Due.same("parts() of nothing", new FlowParts().parts(), 0);
        FlowParts x = blank(10, 0);
        Due.same("parts() of columns alone", x.parts(), 0);
        Due.fails("part(0)", Told.INDEX, () -> x.part(0));
    }

    private static void rowByItself() {
        Due.about("a row by itself is one");
        FlowParts x = blank(2, 8);
        Due.same("rows without terms", x.parts(), 8);
        x.term(3, 0, 5);
        x.term(4, 1, 5);
        Due.same("columns with one term join none", x.parts(), 8);
        for (int row = 0; row < 8; row++) {
            Due.same("part(" + row + ")", x.part(row), row);
        }
    }

    private static void joinedAndSoOn() {
        Due.about("PARTS are rows that are joined, and so on");
        FlowParts x = blank(7, 8);
        for (int column = 0; column < 7; column++) {
            x.term(7 - column, column, -100);
            x.term(6 - column, column, 1);
            Due.same("a longer chain from the last row on", x.parts(), 7 - column);
            Due.same("the last row's part", x.part(7), 6 - column);
        }
        x.term(4, 3, 0);
        Due.same("the chain cut in its middle", x.parts(), 2);
        Due.same("the row before the cut", x.part(3), 0);
        Due.same("the row behind the cut", x.part(4), 4);
        Due.same("the last row", x.part(7), 4);
        FlowParts y = blank(1, 8);
        for (int row = 0; row < 8; row++) {
            y.term(row, 0, row + 1);
        }
        Due.same("one column with terms of all rows", y.parts(), 1);
        Due.same("its last row", y.part(7), 0);
    }

    private static void partsMeetLate() {
        Due.about("The least row of the PART that a row is of");
        FlowParts x = withTerms(3, 6, new int[][] {{4, 0, 1}, {5, 0, 1}, {1, 1, 1}, {2, 1, 1}, {5, 2, 1}, {2, 2, 1}});
        int[] want = {0, 1, 1, 3, 1, 1};
        for (int row = 0; row < 6; row++) {
            Due.same("part(" + row + ")", x.part(row), want[row]);
        }
        Due.same("parts()", x.parts(), 3);
        Due.fails("part(-1)", Told.INDEX, () -> x.part(-1));
        Due.fails("part(6)", Told.INDEX, () -> x.part(6));
        Due.fails("part(least)", Told.INDEX, () -> x.part(Integer.MIN_VALUE));
        Due.fails("part(most)", Told.INDEX, () -> x.part(Integer.MAX_VALUE));
    }

    private static void flowOfNothing() {
        Due.about("A FLOW without columns, without rows, without terms");
        Due.same("nothing", new FlowParts().flow(), NONE);
        Due.same("columns alone", blank(10, 0).flow(), NONE);
        FlowParts rows = blank(0, 8);
        Due.same("rows alone", rows.flow(), NONE);
        Due.same("their last sign", rows.sign(7), 1);
        Due.same("both without terms", blank(10, 8).flow(), NONE);
    }

    private static void twoTerms() {
        Due.about("each column has at most two TERMS");
        FlowParts x = blank(10, 8);
        x.term(0, 9, 1);
        Due.same("one", x.flow(), NONE);
        x.term(7, 9, 1);
        Due.same("two", x.flow(), NONE);
        x.term(3, 9, -1);
        Due.same("three", x.flow(), 9);
        x.term(7, 0, 1);
        x.term(6, 0, 1);
        x.term(5, 0, 1);
        Due.same("three in the first column too", x.flow(), 0);
    }

    private static void unitTerms() {
        Due.about("all of them 1 or -1");
        int[][] told = {{1, NONE}, {-1, NONE}, {0, NONE}, {2, 4}, {-2, 4}, {100, 4}, {-100, 4}};
        for (int[] one : told) {
            Due.same("a term " + one[0], withTerms(5, 8, new int[][] {{7, 4, one[0]}}).flow(), one[1]);
        }
    }

    private static void reasonInTurn() {
        Due.about("its REASON is the first column that has more than two TERMS, or one that is not 1 or -1; "
                + "if there is no such column, the first column for which, with those before it, there are no SIGNS");
        int[][] noSigns = {{0, 0, 1}, {1, 0, 1}, {0, 1, 1}, {1, 1, -1}};
        FlowParts x = withTerms(10, 8, noSigns);
        Due.same("no signs from column 1 on", x.flow(), 1);
        x.term(7, 9, 2);
        Due.same("a 2 in the last column goes before it", x.flow(), 9);
        x.term(7, 9, 0);
        x.term(5, 8, 1);
        x.term(6, 8, 1);
        x.term(7, 8, 1);
        Due.same("three terms in column 8 go before it", x.flow(), 8);
        x.term(7, 9, 2);
        Due.same("of both the first", x.flow(), 8);
        x.term(5, 8, 0);
        x.term(7, 9, 0);
        x.term(1, 1, 1);
        Due.same("signs again", x.flow(), NONE);
    }

    /** Rows 0 .. 7 in a ring; the sign of the last column's second coefficient is given. */
    private static FlowParts ring(int last) {
        FlowParts x = blank(8, 8);
        for (int column = 0; column < 8; column++) {
            x.term(column, column, 1);
            x.term((column + 1) % 8, column, column == 7 ? last : 1);
        }
        return x;
    }

    private static void ringOfAllRows() {
        Due.about("the coefficients times the SIGNS of their rows are 1 and -1");
        FlowParts x = ring(1);
        Due.same("an even ring of equal coefficients", x.flow(), NONE);
        for (int row = 0; row < 8; row++) {
            Due.same("sign(" + row + ")", x.sign(row), row % 2 == 0 ? 1 : -1);
        }
        Due.same("the same with one turned fails at the last column", ring(-1).flow(), 7);
        FlowParts y = ring(-1);
        y.term(7, 7, 0);
        Due.same("a column with one term asks no sign", y.flow(), NONE);
    }

    private static void leastRowHasSignOne() {
        Due.about("In each PART the least row has SIGN 1");
        FlowParts x = withTerms(3, 6, new int[][] {{5, 0, 1}, {2, 0, 1}, {4, 1, -1}, {1, 1, -1}, {5, 2, 1}, {1, 2, 1}});
        int[] want = {1, 1, 1, 1, -1, -1};
        for (int row = 0; row < 6; row++) {
            Due.same("sign(" + row + ")", x.sign(row), want[row]);
        }
        x.term(5, 0, -1);
        Due.same("sign(2) with the opposite coefficient", x.sign(2), -1);
        x.term(5, 0, 0);
        Due.same("sign(2) by itself", x.sign(2), 1);
    }

    private static void signRefused() {
        Due.about("IllegalStateException: it is no FLOW; IndexOutOfBoundsException");
        FlowParts x = blank(1, 2);
        Due.fails("sign(-1) of a flow", Told.INDEX, () -> x.sign(-1));
        Due.fails("sign(2) of a flow", Told.INDEX, () -> x.sign(2));
        Due.fails("sign(least) of a flow", Told.INDEX, () -> x.sign(Integer.MIN_VALUE));
        Due.fails("sign(most) of a flow", Told.INDEX, () -> x.sign(Integer.MAX_VALUE));
        x.term(0, 0, 2);
        for (int k = -1; k <= 2; k++) {
            int row = k;
            Due.fails("sign(" + row + ") of no flow", Told.STATE, () -> x.sign(row));
        }
        x.term(0, 0, 1);
        Due.same("sign(1) of a flow again", x.sign(1), 1);
    }

    private static void intervalsOfNothing() {
        Due.about("A TABLE OF INTERVALS without columns, without rows, without terms");
        Due.same("nothing", new FlowParts().intervals(), NONE);
        Due.same("columns alone", blank(10, 0).intervals(), NONE);
        Due.same("rows alone", blank(0, 8).intervals(), NONE);
        Due.same("all 0", blank(10, 8).intervals(), NONE);
    }

    private static void zeroOrOne() {
        Due.about("all coefficients are 0 or 1");
        int[][] told = {{0, NONE}, {1, NONE}, {-1, 9}, {2, 9}, {100, 9}, {-100, 9}};
        for (int[] one : told) {
            Due.same("a coefficient " + one[0], withTerms(10, 8, new int[][] {{7, 9, one[0]}}).intervals(), one[1]);
            Due.same("in row 0", withTerms(10, 8, new int[][] {{0, 9, one[0]}}).intervals(), one[1]);
        }
    }

    /** Every set of rows that may have 1 in a column, with the words of the document. */
    private static void oneBehindTheOther() {
        Due.about("those rows that have 1 stand one behind the other");
        FlowParts x = blank(2, 8);
        for (int set = 0; set < 256; set++) {
            int first = 8;
            int last = -1;
            for (int row = 0; row < 8; row++) {
                boolean in = (set >> row & 1) == 1;
                x.term(row, 1, in ? 1 : 0);
                first = in ? Math.min(first, row) : first;
                last = in ? row : last;
            }
            boolean dense = last < 0 || Integer.bitCount(set) == last - first + 1;
            Due.same("rows " + Integer.toBinaryString(set), x.intervals(), dense ? NONE : 1);
        }
        x.term(0, 0, 1);
        x.term(2, 0, 1);
        x.term(1, 1, -1);
        Due.same("of two columns the first", x.intervals(), 0);
    }

    private static void natureOfNothing() {
        Due.about("WHOLE BY NATURE without columns, without rows, without terms");
        Due.same("nothing", new FlowParts().nature(), NONE);
        Due.same("columns alone", blank(10, 0).nature(), NONE);
        Due.same("rows alone", blank(0, 8).nature(), NONE);
        Due.same("all 0", blank(10, 8).nature(), NONE);
    }

    private static void oneRowParted() {
        Due.about("parted in two (one of which may have none) so that the sum is -1, 0 or 1");
        int[][] told = {{0, 0}, {1, 0}, {-1, 0}, {2, 1}, {-2, 1}, {100, 1}, {-100, 1}};
        for (int[] one : told) {
            for (int row = 0; row < 8; row++) {
                FlowParts x = withTerms(10, 8, new int[][] {{row, 9, one[0]}});
                Due.same("row " + row + " with " + one[0], x.nature(), one[1] == 1 ? 1 << row : NONE);
            }
        }
    }

    private static void twoRowsParted() {
        Due.about("in each column the sum of the coefficients of the one, less that of the other, is -1, 0 or 1");
        FlowParts x = withTerms(2, 2, new int[][] {{0, 0, 1}, {1, 0, 1}, {0, 1, 1}, {1, 1, 1}});
        Due.same("taken away in both columns", x.nature(), NONE);
        x.term(1, 0, -1);
        x.term(1, 1, -1);
        Due.same("added in both columns", x.nature(), NONE);
        x.term(1, 1, 1);
        Due.same("2 one way or the other", x.nature(), 3);
        x.term(1, 1, 0);
        Due.same("with one column left", x.nature(), NONE);
    }

    private static void leastSet() {
        Due.about("its REASON is the first set for which it can't be, as a number (row k is 2 to the k)");
        int[][] both = {{5, 0, 1}, {6, 0, 1}, {5, 1, 1}, {6, 1, -1}, {7, 2, 2}};
        Due.same("rows 5 and 6 before row 7", withTerms(3, 8, both).nature(), 96);
        int[][] later = {{6, 0, 1}, {7, 0, 1}, {6, 1, 1}, {7, 1, -1}, {5, 2, 2}};
        Due.same("row 5 before rows 6 and 7", withTerms(3, 8, later).nature(), 32);
        int[][] outer = {{0, 0, 1}, {7, 0, 1}, {0, 1, 1}, {7, 1, -1}};
        Due.same("rows 0 and 7", withTerms(2, 8, outer).nature(), 129);
        int[][] same = {{7, 0, 2}, {0, 1, 1}, {7, 1, 1}, {0, 2, 1}, {7, 2, -1}};
        Due.same("row 7 before rows 0 and 7", withTerms(3, 8, same).nature(), 128);
        Due.same("a ring of all rows", ring(-1).nature(), 255);
        Due.same("a ring that can be parted", ring(1).nature(), NONE);
    }

    /** The column with the given numbers stands last and then first: that must not matter. */
    private static int sack(int kind, int right, int a, int low) {
        int[][] last = {{0, 3, -1}, {low, 3, -1}};
        int[][] first = {{low, 3, -1}, {0, 3, -1}};
        int answer = Told.asInt(Told.whole(last, new int[][] {{kind, right, 3, a}}).knapsack());
        int other = Told.asInt(Told.whole(first, new int[][] {{kind, right, a, 3}}).knapsack());
        Due.same("the columns changed", other, answer);
        return answer;
    }

    private static void knapsackNumbers() {
        Due.about("of KIND 0, its RIGHT 0 .. 300, all its coefficients above 0, all LOWS 0");
        Due.same("kind 0", sack(0, 9, 2, 0), 1);
        Due.same("kind 1", sack(1, 9, 2, 0), 0);
        int[][] rights = {{-100000, 0}, {-1, 0}, {0, 1}, {1, 1}, {299, 1}, {300, 1}, {301, 0}, {100000, 0}};
        for (int[] right : rights) {
            Due.same("right " + right[0], sack(0, right[0], 2, 0), right[1]);
        }
        int[][] terms = {{-100, 0}, {-1, 0}, {0, 0}, {1, 1}, {100, 1}};
        for (int[] term : terms) {
            Due.same("a coefficient " + term[0], sack(0, 9, term[0], 0), term[1]);
        }
        int[][] lows = {{-1000, 0}, {-1, 0}, {0, 1}, {1, 0}, {3, 0}};
        for (int[] low : lows) {
            Due.same("a low of " + low[0], sack(0, 9, 2, low[0]), low[1]);
        }
    }

    private static void justOneRow() {
        Due.about("A KNAPSACK: there is just one row");
        Due.same("nothing", Told.asInt(new FlowParts().knapsack()), 0);
        Due.same("columns alone", Told.asInt(blank(10, 0).knapsack()), 0);
        FlowParts x = Told.whole(Told.same(10, 0, 1000, 1), new int[][] {{0, 300, 9, 9, 9, 9, 9, 9, 9, 9, 9, 9}});
        Due.same("ten columns", Told.asInt(x.knapsack()), 1);
        x.term(0, 9, 0);
        Due.same("the last coefficient 0", Told.asInt(x.knapsack()), 0);
        x.term(0, 9, 1);
        x.row(0, 5);
        Due.same("two rows", Told.asInt(x.knapsack()), 0);
        Due.same("a row without columns", Told.asInt(blank(0, 1).knapsack()), 1);
        FlowParts zero = Told.whole(new int[][] {{0, 0, 1}}, new int[][] {{0, 0, 100}});
        Due.same("high 0 and right 0", Told.asInt(zero.knapsack()), 1);
    }

    /** As with sack(), the column and the row with the given numbers stand last and then first. */
    private static int pairs(int a, int right, int low, int high) {
        int[][] last = {{0, 1, 5}, {low, high, -5}};
        int[][] first = {{low, high, -5}, {0, 1, 5}};
        int answer = Told.asInt(Told.whole(last, new int[][] {{0, 1, 1, 0}, {1, right, 1, a}}).matching());
        int other = Told.asInt(Told.whole(first, new int[][] {{1, right, a, 1}, {0, 1, 0, 1}}).matching());
        Due.same("the columns and rows changed", other, answer);
        return answer;
    }

    private static void matchingNumbers() {
        Due.about("coefficients 0 and 1 alone, all RIGHTS 1, all LOWS 0, all HIGHS 1");
        int[][] terms = {{-1, 0}, {0, 1}, {1, 1}, {2, 0}};
        for (int[] term : terms) {
            Due.same("a coefficient " + term[0], pairs(term[0], 1, 0, 1), term[1]);
        }
        int[][] rights = {{-1, 0}, {0, 0}, {1, 1}, {2, 0}};
        for (int[] right : rights) {
            Due.same("a right of " + right[0], pairs(1, right[0], 0, 1), right[1]);
        }
        Due.same("a low of -1", pairs(1, 1, -1, 1), 0);
        Due.same("a low of 1", pairs(1, 1, 1, 1), 0);
        Due.same("a high of 0", pairs(1, 1, 0, 0), 0);
        Due.same("a high of 2", pairs(1, 1, 0, 2), 0);
    }

    private static void matchingIsFlow() {
        Due.about("A MATCHING: a FLOW");
        Due.same("nothing", Told.asInt(new FlowParts().matching()), 1);
        Due.same("columns alone", Told.asInt(blank(10, 0).matching()), 1);
        Due.same("rows alone", Told.asInt(blank(0, 8).matching()), 1);
        int[][] odd = {{0, 0, 1}, {1, 0, 1}, {1, 1, 1}, {2, 1, 1}, {0, 2, 1}, {2, 2, 1}};
        FlowParts x = withTerms(10, 8, odd);
        Due.same("an odd ring", Told.asInt(x.matching()), 0);
        x.term(2, 2, 0);
        Due.same("the ring opened", Told.asInt(x.matching()), 1);
        x.term(7, 9, 1);
        x.term(6, 9, 1);
        Due.same("with the last column", Told.asInt(x.matching()), 1);
        x.term(5, 9, 1);
        Due.same("three terms", Told.asInt(x.matching()), 0);
        x.term(5, 9, 0);
        x.right(7, 0);
        Due.same("the last right 0", Told.asInt(x.matching()), 0);
    }

    /** From row 0 to row 1 by column 0, the numbers of which are given. */
    private static int road(int low, int high, int cost, int start, int end) {
        int[][] columns = {{low, high, cost}};
        return Told.asInt(Told.whole(columns, new int[][] {{1, start, -1}, {1, end, 1}}).way());
    }

    private static void wayNumbers() {
        Due.about("LOW 0, HIGH 1 or more, COST not below 0");
        Due.same("0 .. 1, cost 0", road(0, 1, 0, -1, 1), 1);
        Due.same("0 .. 1000, cost 1000", road(0, 1000, 1000, -1, 1), 1);
        Due.same("a low of -1", road(-1, 1, 0, -1, 1), 0);
        Due.same("a low of 1", road(1, 1, 0, -1, 1), 0);
        Due.same("a high of 0", road(0, 0, 0, -1, 1), 0);
        Due.same("a cost of -1", road(0, 1, -1, -1, 1), 0);
    }

    private static void wayEnds() {
        Due.about("of RIGHT times SIGN it is 1 for one row, -1 for one row of the same PART, 0 for all others");
        for (int start = -2; start <= 2; start++) {
            for (int end = -2; end <= 2; end++) {
                Due.same("rights " + start + ", " + end, road(0, 1, 1, start, end), Told.asInt(start * end == -1));
            }
        }
        int[][] rows = {{1, 1, 1}, {1, 1, 1}};
        FlowParts turned = Told.whole(new int[][] {{0, 1, 0}}, rows);
        Due.same("rights 1 and 1 of signs 1 and -1", Told.asInt(turned.way()), 1);
        turned.right(1, -1);
        Due.same("rights 1 and -1 of signs 1 and -1", Told.asInt(turned.way()), 0);
        int[][] two = {{1, -1, -1, 0}, {1, 0, 1, 0}, {1, 0, 0, -1}, {1, 1, 0, 1}};
        FlowParts parted = Told.whole(Told.same(2, 0, 1, 0), two);
        Due.same("the ends in two parts", Told.asInt(parted.way()), 0);
        parted.right(3, 0);
        parted.right(1, 1);
        Due.same("the ends in the first part", Told.asInt(parted.way()), 1);
        parted.right(2, -1);
        parted.right(3, 1);
        Due.same("ends in both parts", Told.asInt(parted.way()), 0);
        parted.right(0, 0);
        parted.right(1, 0);
        Due.same("the ends in the second part", Told.asInt(parted.way()), 1);
    }

    private static void wayShape() {
        Due.about("A WAY: a FLOW with rows of KIND 1 alone, each column with two TERMS");
        Due.same("nothing", Told.asInt(new FlowParts().way()), 0);
        Due.same("columns alone", Told.asInt(blank(2, 0).way()), 0);
        FlowParts alone = Told.whole(new int[0][], new int[][] {{1, 1}, {1, -1}});
        Due.same("rows alone", Told.asInt(alone.way()), 0);
        for (int kinds = 0; kinds < 8; kinds++) {
            int[][] rows = {{kinds & 1, -1, -1}, {kinds >> 1 & 1, 1, 1}, {kinds >> 2, 0, 0}};
            FlowParts x = Told.whole(new int[][] {{0, 1, 0}}, rows);
            Due.same("kinds " + kinds, Told.asInt(x.way()), Told.asInt(kinds == 7));
        }
        FlowParts x = Told.whole(Told.same(2, 0, 1, 0), new int[][] {{1, -1, -1, -1}, {1, 1, 1, 1}, {1, 0, 0, 0}});
        for (int column = 0; column < 2; column++) {
            x.cost(column, -1);
            Due.same("a cost of -1 in column " + column, Told.asInt(x.way()), 0);
            x.cost(column, 0);
        }
        Due.same("two columns", Told.asInt(x.way()), 1);
        x.term(1, 1, 0);
        Due.same("a column with one term", Told.asInt(x.way()), 0);
        x.term(0, 1, 0);
        Due.same("a column without terms", Told.asInt(x.way()), 0);
        x.term(0, 1, 1);
        x.term(1, 1, 1);
        Due.same("no flow", Told.asInt(x.way()), 0);
    }

    private static void fullWay() {
        Due.about("A WAY of 10 columns and 8 rows");
        FlowParts x = Told.whole(Told.same(10, 0, 1, 0), Told.same(8, 1, 0));
        for (int column = 0; column < 10; column++) {
            x.term(column % 8, column, -1);
            x.term((column + 1) % 8, column, 1);
        }
        Due.same("no ends", Told.asInt(x.way()), 0);
        x.right(7, 1);
        Due.same("one end", Told.asInt(x.way()), 0);
        x.right(0, -1);
        Due.same("both ends", Told.asInt(x.way()), 1);
        x.right(6, 1);
        Due.same("one end too many", Told.asInt(x.way()), 0);
        x.right(7, 0);
        Due.same("the end in another row", Told.asInt(x.way()), 1);
        x.bounds(9, 0, 0);
        Due.same("the last column's high 0", Told.asInt(x.way()), 0);
    }

    public static void main(String[] args) {
        noRows();
        rowByItself();
        joinedAndSoOn();
        partsMeetLate();
        flowOfNothing();
        twoTerms();
        unitTerms();
        reasonInTurn();
        ringOfAllRows();
        leastRowHasSignOne();
        signRefused();
        intervalsOfNothing();
        zeroOrOne();
        oneBehindTheOther();
        natureOfNothing();
        oneRowParted();
        twoRowsParted();
        leastSet();
        knapsackNumbers();
        justOneRow();
        matchingNumbers();
        matchingIsFlow();
        wayNumbers();
        wayEnds();
        wayShape();
        fullWay();
        Due.end();
    }
}
