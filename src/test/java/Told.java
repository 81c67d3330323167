import java.util.function.IntSupplier;

/** Wholes told in one go, and all that an object answers, as a text. */
final class Told {
    static final Class<IllegalStateException> STATE = IllegalStateException.class;
    static final Class<IllegalArgumentException> ARGUMENT = IllegalArgumentException.class;
    static final Class<IndexOutOfBoundsException> INDEX = IndexOutOfBoundsException.class;

    private Told() {
    }

    /** A column is its low, high and cost; a row its kind, its right, and its coefficients. */
    static FlowParts whole(int[][] columns, int[][] rows) {
        FlowParts x = new FlowParts();
        for (int[] column : columns) {
            x.column(column[0], column[1], column[2]);
        }
        for (int[] row : rows) {
            int number = x.row(row[0], row[1]);
            for (int column = 0; column + 2 < row.length; column++) {
                x.term(number, column, row[column + 2]);
            }
        }
        return x;
    }

    static int[][] same(int count, int... numbers) {
        int[][] all = new int[count][];
        for (int k = 0; k < count; k++) {
            all[k] = numbers.clone();
        }
        return all;
    }

    static int asInt(boolean so) {
        return so ? 1 : 0;
    }

    private static void ask(StringBuilder text, String name, IntSupplier call) {
        text.append(name).append('=');
        try {
            text.append(call.getAsInt());
        } catch (RuntimeException e) {
            text.append(e.getClass().getSimpleName());
        }
        text.append(' ');
    }

    /** Every question, of every row and column that could be and one beyond; none changes anything. */
    static String answers(FlowParts x) {
        StringBuilder text = new StringBuilder();
        ask(text, "parts", x::parts);
        ask(text, "flow", x::flow);
        ask(text, "intervals", x::intervals);
        ask(text, "nature", x::nature);
        ask(text, "knapsack", () -> asInt(x.knapsack()));
        ask(text, "matching", () -> asInt(x.matching()));
        ask(text, "way", () -> asInt(x.way()));
        ask(text, "value", x::value);
        ask(text, "proof", x::proof);
        ask(text, "side", x::side);
        for (int k = -1; k <= 8; k++) {
            int row = k;
            ask(text, "part" + row, () -> x.part(row));
            ask(text, "sign" + row, () -> x.sign(row));
            ask(text, "sum" + row, () -> x.sum(row));
            ask(text, "price" + row, () -> x.price(row));
        }
        for (int k = -1; k <= 10; k++) {
            int column = k;
            ask(text, "at" + column, () -> x.at(column));
            ask(text, "reduced" + column, () -> x.reduced(column));
        }
        return text.toString();
    }

    /** All that can be found out of an object; it is used up by that. */
    static String state(FlowParts x) {
        StringBuilder text = new StringBuilder(answers(x));
        ask(text, "solve", x::solve);
        text.append(answers(x));
        for (int k = -1; k <= 10; k++) {
            int column = k;
            ask(text, "cost" + column, () -> x.cost(column, 1));
        }
        for (int k = -1; k <= 8; k++) {
            int row = k;
            ask(text, "right" + row, () -> x.right(row, 0));
        }
        dropTerms(x);
        bounds(text, x);
        kinds(text, x);
        ask(text, "columns", x::clear);
        return text.toString();
    }

    private static void dropTerms(FlowParts x) {
        for (int row = 0; row < 8; row++) {
            for (int column = 0; column < 10; column++) {
                dropTerm(x, row, column);
            }
        }
    }

    private static void dropTerm(FlowParts x, int row, int column) {
        try {
            x.term(row, column, 0);
        } catch (IndexOutOfBoundsException e) {
            return;
        }
    }

    /** Without terms and with all rights 0, the best point is the lows, or with costs below 0 the highs. */
    private static void bounds(StringBuilder text, FlowParts x) {
        for (int cost = 1; cost >= -1; cost -= 2) {
            for (int k = 0; k < 10; k++) {
                int column = k;
                int its = cost;
                ask(text, "cost" + column, () -> x.cost(column, its));
            }
            ask(text, "solve", x::solve);
            for (int k = 0; k < 10; k++) {
                int column = k;
                ask(text, "bound" + column, () -> x.at(column));
            }
        }
    }

    /** A sum of 0 is at most 1, but is not 1. */
    private static void kinds(StringBuilder text, FlowParts x) {
        for (int k = 0; k < 8; k++) {
            int row = k;
            ask(text, "right" + row, () -> x.right(row, 1));
            ask(text, "solve", x::solve);
            ask(text, "right" + row, () -> x.right(row, 0));
        }
    }
}
