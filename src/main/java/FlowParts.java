import java.util.Arrays;

/**
 * Rows of whole numbers over bounded columns: what they are (a flow, a table of intervals, a
 * knapsack), and their best point with what proves it.
 */
public final class FlowParts {
    public static final int NONE = -1;

    private static final int MOST_COLUMNS = 10;
    private static final int MOST_ROWS = 8;
    private static final int MOST_NUMBER = 1000;
    private static final int MOST_COEFFICIENT = 100;
    private static final int MOST_RIGHT = 100000;
    private static final int MOST_LOAD = 300;

    private static final int KIND_AT_MOST = 0;
    private static final int KIND_EQUAL = 1;

    private static final int SOLVED_NOTHING = 0;
    private static final int SOLVED_FLOW = 1;
    private static final int SOLVED_KNAPSACK = 2;
    private static final int SOLVED_NO_POINT = 3;

    /** The node that stands for the missing second row of a column with one term. */
    private static final int GROUND = MOST_ROWS;
    private static final int NODES = MOST_ROWS + 1;
    private static final int MOST_ARCS = MOST_COLUMNS + MOST_ROWS;

    /** Beyond every distance and every limit, and twice it is still an int. */
    private static final int FAR = 1000000000;

    private final Shape shape;
    private final Whole whole;
    private final Network network;
    private final Prices prices;
    private final Proof noPoint;
    private final Knapsack sack;
    private final int[] best;
    private int solved;

    public FlowParts() {
        shape = new Shape();
        whole = shape.whole;
        network = new Network();
        prices = new Prices();
        noPoint = new Proof();
        sack = new Knapsack();
        best = new int[MOST_COLUMNS];
        solved = SOLVED_NOTHING;
    }

    public int column(int low, int high, int cost)
            throws IllegalStateException, IllegalArgumentException {
        if (whole.columns >= MOST_COLUMNS) {
            throw new IllegalStateException("there are 10 columns");
        }
        if (!areBounds(low, high) || !isWithin(cost, MOST_NUMBER)) {
            throw new IllegalArgumentException("a number of the column is not as told");
        }
        solved = SOLVED_NOTHING;
        return whole.addColumn(low, high, cost);
    }

    public int row(int kind, int right) throws IllegalStateException, IllegalArgumentException {
        if (whole.rows >= MOST_ROWS) {
            throw new IllegalStateException("there are 8 rows");
        }
        boolean isKind = kind == KIND_AT_MOST || kind == KIND_EQUAL;
        if (!isKind || !isWithin(right, MOST_RIGHT)) {
            throw new IllegalArgumentException("a number of the row is not as told");
        }
        solved = SOLVED_NOTHING;
        return whole.addRow(kind, right);
    }

    public void term(int row, int column, int a)
            throws IndexOutOfBoundsException, IllegalArgumentException {
        needRow(row);
        needColumn(column);
        if (!isWithin(a, MOST_COEFFICIENT)) {
            throw new IllegalArgumentException("the coefficient is not -100 .. 100");
        }
        solved = SOLVED_NOTHING;
        whole.a[row][column] = a;
    }

    public void bounds(int column, int low, int high)
            throws IndexOutOfBoundsException, IllegalArgumentException {
        needColumn(column);
        if (!areBounds(low, high)) {
            throw new IllegalArgumentException("the bounds are not as told");
        }
        solved = SOLVED_NOTHING;
        whole.low[column] = low;
        whole.high[column] = high;
    }

    public int cost(int column, int cost)
            throws IndexOutOfBoundsException, IllegalArgumentException {
        needColumn(column);
        if (!isWithin(cost, MOST_NUMBER)) {
            throw new IllegalArgumentException("the cost is not -1000 .. 1000");
        }
        solved = SOLVED_NOTHING;
        int before = whole.cost[column];
        whole.cost[column] = cost;
        return before;
    }

    public int right(int row, int right)
            throws IndexOutOfBoundsException, IllegalArgumentException {
        needRow(row);
        if (!isWithin(right, MOST_RIGHT)) {
            throw new IllegalArgumentException("the right side is not -100000 .. 100000");
        }
        solved = SOLVED_NOTHING;
        int before = whole.right[row];
        whole.right[row] = right;
        return before;
    }

    public int clear() {
        solved = SOLVED_NOTHING;
        int before = whole.columns;
        whole.wipe();
        return before;
    }

    public int parts() {
        return shape.findParts();
    }

    public int part(int row) throws IndexOutOfBoundsException {
        needRow(row);
        shape.findParts();
        return shape.leastRow[row];
    }

    public int flow() {
        return shape.findSigns();
    }

    public int sign(int row) throws IllegalStateException, IndexOutOfBoundsException {
        if (shape.findSigns() != NONE) {
            throw new IllegalStateException("it is no flow");
        }
        needRow(row);
        return shape.signs[row];
    }

    public int intervals() {
        return shape.firstColumnNoInterval();
    }

    public int nature() {
        return shape.firstSetNotParted();
    }

    public boolean knapsack() {
        return shape.isKnapsack();
    }

    public boolean matching() {
        return shape.isMatching();
    }

    public boolean way() {
        return shape.isWay();
    }

    public int solve() {
        if (shape.findSigns() == NONE) {
            solved = solveFlow();
        } else if (shape.isKnapsack()) {
            sack.fill(whole, best);
            solved = SOLVED_KNAPSACK;
        } else {
            solved = SOLVED_NOTHING;
            return NONE;
        }
        return solved == SOLVED_NO_POINT ? 0 : 1;
    }

    public int at(int column) throws IllegalStateException, IndexOutOfBoundsException {
        needBest();
        needColumn(column);
        return best[column];
    }

    public int value() throws IllegalStateException {
        needBest();
        int total = 0;
        for (int column = 0; column < whole.columns; column++) {
            total += whole.cost[column] * best[column];
        }
        return total;
    }

    public int sum(int row) throws IllegalStateException, IndexOutOfBoundsException {
        needBest();
        needRow(row);
        int total = 0;
        for (int column = 0; column < whole.columns; column++) {
            total += whole.a[row][column] * best[column];
        }
        return total;
    }

    public int price(int row) throws IllegalStateException, IndexOutOfBoundsException {
        needPrices();
        needRow(row);
        return prices.ofRow[row];
    }

    public int reduced(int column) throws IllegalStateException, IndexOutOfBoundsException {
        needPrices();
        needColumn(column);
        int left = whole.cost[column];
        for (int row = 0; row < whole.rows; row++) {
            left -= whole.a[row][column] * prices.ofRow[row];
        }
        return left;
    }

    public int proof() throws IllegalStateException {
        needNoPoint();
        return noPoint.rowSet;
    }

    public int side() throws IllegalStateException {
        needNoPoint();
        return noPoint.ofSide;
    }

    /** The signs must have been found just before. */
    private int solveFlow() {
        network.lay(whole, shape.signs);
        if (!network.balance()) {
            noPoint.search(whole, shape.signs);
            return SOLVED_NO_POINT;
        }
        System.arraycopy(network.amount, 0, best, 0, whole.columns);
        prices.choose(network, shape.signs, whole.rows);
        return SOLVED_FLOW;
    }

    private static boolean isWithin(int number, int most) {
        return number >= -most && number <= most;
    }

    private static boolean areBounds(int low, int high) {
        return isWithin(low, MOST_NUMBER) && isWithin(high, MOST_NUMBER) && low <= high;
    }

    private void needColumn(int column) {
        if (column < 0 || column >= whole.columns) {
            throw new IndexOutOfBoundsException("there is no such column");
        }
    }

    private void needRow(int row) {
        if (row < 0 || row >= whole.rows) {
            throw new IndexOutOfBoundsException("there is no such row");
        }
    }

    private void needBest() {
        if (solved != SOLVED_FLOW && solved != SOLVED_KNAPSACK) {
            throw new IllegalStateException("nothing is solved with a best point");
        }
    }

    private void needPrices() {
        if (solved != SOLVED_FLOW) {
            throw new IllegalStateException("no flow is solved with a best point");
        }
    }

    private void needNoPoint() {
        if (solved != SOLVED_NO_POINT) {
            throw new IllegalStateException("it was not solved that no point fits");
        }
    }

    /** The columns and rows as they were told; coefficients beyond them stay 0. */
    private static final class Whole {
        int columns;
        int rows;
        final int[] low = new int[MOST_COLUMNS];
        final int[] high = new int[MOST_COLUMNS];
        final int[] cost = new int[MOST_COLUMNS];
        final int[] kind = new int[MOST_ROWS];
        final int[] right = new int[MOST_ROWS];
        final int[][] a = new int[MOST_ROWS][MOST_COLUMNS];

        int addColumn(int itsLow, int itsHigh, int itsCost) {
            int number = columns;
            low[number] = itsLow;
            high[number] = itsHigh;
            cost[number] = itsCost;
            columns = number + 1;
            return number;
        }

        int addRow(int itsKind, int itsRight) {
            int number = rows;
            kind[number] = itsKind;
            right[number] = itsRight;
            rows = number + 1;
            return number;
        }

        void wipe() {
            for (int row = 0; row < MOST_ROWS; row++) {
                Arrays.fill(a[row], 0);
            }
            columns = 0;
            rows = 0;
        }

        int countTerms(int column) {
            int count = 0;
            for (int row = 0; row < rows; row++) {
                if (a[row][column] != 0) {
                    count++;
                }
            }
            return count;
        }

        /** NONE if no row from the given one on has a term in the column. */
        int nextTerm(int column, int fromRow) {
            for (int row = fromRow; row < rows; row++) {
                if (a[row][column] != 0) {
                    return row;
                }
            }
            return NONE;
        }
    }

    /** A whole and what it is; parts and signs are found anew each time, as the whole may change. */
    private static final class Shape {
        final Whole whole = new Whole();
        final int[] leastRow = new int[MOST_ROWS];
        final int[] signs = new int[MOST_ROWS];
        private final int[] rowsAbove = new int[MOST_COLUMNS];
        private final int[] rowsBelow = new int[MOST_COLUMNS];

        /** How many parts; leastRow then names them. */
        int findParts() {
            startAlone();
            for (int column = 0; column < whole.columns; column++) {
                joinColumn(column);
            }
            int count = 0;
            for (int row = 0; row < whole.rows; row++) {
                if (leastRow[row] == row) {
                    count++;
                }
            }
            return count;
        }

        /** NONE if there are signs (leastRow then names the parts), else the reason. */
        int findSigns() {
            for (int column = 0; column < whole.columns; column++) {
                if (!canBeArc(column)) {
                    return column;
                }
            }
            startAlone();
            for (int column = 0; column < whole.columns; column++) {
                if (!takeArc(column)) {
                    return column;
                }
            }
            return NONE;
        }

        int firstColumnNoInterval() {
            for (int column = 0; column < whole.columns; column++) {
                if (!isInterval(column)) {
                    return column;
                }
            }
            return NONE;
        }

        /** Sets are tried by their last row: that is the order of their numbers. */
        int firstSetNotParted() {
            noteSides();
            for (int last = 0; last < whole.rows; last++) {
                if (!hasUnitTerms(last)) {
                    return 1 << last;
                }
                for (int others = 0; others < 1 << last; others++) {
                    if (!canBeParted(others, 1 << last)) {
                        return others + (1 << last);
                    }
                }
            }
            return NONE;
        }

        boolean isKnapsack() {
            if (whole.rows != 1 || whole.kind[0] != KIND_AT_MOST) {
                return false;
            }
            if (whole.right[0] < 0 || whole.right[0] > MOST_LOAD) {
                return false;
            }
            for (int column = 0; column < whole.columns; column++) {
                if (whole.a[0][column] <= 0 || whole.low[column] != 0) {
                    return false;
                }
            }
            return true;
        }

        boolean isMatching() {
            if (findSigns() != NONE) {
                return false;
            }
            for (int column = 0; column < whole.columns; column++) {
                if (whole.low[column] != 0 || whole.high[column] != 1) {
                    return false;
                }
            }
            for (int row = 0; row < whole.rows; row++) {
                if (whole.right[row] != 1 || hasTermBelowZero(row)) {
                    return false;
                }
            }
            return true;
        }

        boolean isWay() {
            if (findSigns() != NONE) {
                return false;
            }
            for (int column = 0; column < whole.columns; column++) {
                if (!canBeWalked(column)) {
                    return false;
                }
            }
            for (int row = 0; row < whole.rows; row++) {
                if (whole.kind[row] != KIND_EQUAL) {
                    return false;
                }
            }
            return hasTwoEnds();
        }

        private void startAlone() {
            for (int row = 0; row < whole.rows; row++) {
                leastRow[row] = row;
                signs[row] = 1;
            }
        }

        private void joinColumn(int column) {
            int first = whole.nextTerm(column, 0);
            if (first == NONE) {
                return;
            }
            for (int row = first + 1; row < whole.rows; row++) {
                if (whole.a[row][column] != 0) {
                    join(first, row, 1);
                }
            }
        }

        /** The part with the greater least row turns, so that each least row keeps sign 1. */
        private void join(int one, int other, int turn) {
            int kept = Math.min(leastRow[one], leastRow[other]);
            int lost = Math.max(leastRow[one], leastRow[other]);
            if (kept == lost) {
                return;
            }
            for (int row = 0; row < whole.rows; row++) {
                if (leastRow[row] == lost) {
                    leastRow[row] = kept;
                    signs[row] *= turn;
                }
            }
        }

        private boolean canBeArc(int column) {
            for (int row = 0; row < whole.rows; row++) {
                if (!isWithin(whole.a[row][column], 1)) {
                    return false;
                }
            }
            return whole.countTerms(column) <= 2;
        }

        /** Whether there still are signs with this column. */
        private boolean takeArc(int column) {
            int one = whole.nextTerm(column, 0);
            int other = one == NONE ? NONE : whole.nextTerm(column, one + 1);
            if (other == NONE) {
                return true;
            }
            boolean agree = signs[one] * whole.a[one][column]
                    + signs[other] * whole.a[other][column] == 0;
            if (leastRow[one] == leastRow[other]) {
                return agree;
            }
            join(one, other, agree ? 1 : -1);
            return true;
        }

        private boolean isInterval(int column) {
            int starts = 0;
            int before = 0;
            for (int row = 0; row < whole.rows; row++) {
                int a = whole.a[row][column];
                if (a != 0 && a != 1) {
                    return false;
                }
                if (a > before) {
                    starts++;
                }
                before = a;
            }
            return starts <= 1;
        }

        private void noteSides() {
            for (int column = 0; column < whole.columns; column++) {
                int above = 0;
                int below = 0;
                for (int row = 0; row < whole.rows; row++) {
                    int a = whole.a[row][column];
                    above |= a > 0 ? 1 << row : 0;
                    below |= a < 0 ? 1 << row : 0;
                }
                rowsAbove[column] = above;
                rowsBelow[column] = below;
            }
        }

        private boolean hasUnitTerms(int row) {
            for (int column = 0; column < whole.columns; column++) {
                if (!isWithin(whole.a[row][column], 1)) {
                    return false;
                }
            }
            return true;
        }

        /** The two sides may change places, so the last row can always stay on the second. */
        private boolean canBeParted(int others, int last) {
            for (int one = others; one > 0; one = (one - 1) & others) {
                if (isParting(one, others - one + last)) {
                    return true;
                }
            }
            return isParting(0, others + last);
        }

        private boolean isParting(int one, int other) {
            for (int column = 0; column < whole.columns; column++) {
                int above = rowsAbove[column];
                int below = rowsBelow[column];
                int more = Integer.bitCount((above & one) | (below & other));
                int less = Integer.bitCount((above & other) | (below & one));
                if (!isWithin(more - less, 1)) {
                    return false;
                }
            }
            return true;
        }

        private boolean hasTermBelowZero(int row) {
            for (int column = 0; column < whole.columns; column++) {
                if (whole.a[row][column] < 0) {
                    return true;
                }
            }
            return false;
        }

        private boolean canBeWalked(int column) {
            return whole.countTerms(column) == 2 && whole.low[column] == 0
                    && whole.high[column] >= 1 && whole.cost[column] >= 0;
        }

        /** The signs must have been found just before. */
        private boolean hasTwoEnds() {
            int start = NONE;
            int end = NONE;
            for (int row = 0; row < whole.rows; row++) {
                int amount = whole.right[row] * signs[row];
                if (amount == 1 && end == NONE) {
                    end = row;
                } else if (amount == -1 && start == NONE) {
                    start = row;
                } else if (amount != 0) {
                    return false;
                }
            }
            return start != NONE && end != NONE && leastRow[start] == leastRow[end];
        }
    }

    /**
     * A flow as arcs between rows and the ground. The arc of a column has the column's number; behind
     * them stands an arc for what a row of kind 0 leaves free. One more on an arc is one more at its
     * upper node and one less at its lower node, each row being taken times its sign.
     */
    private static final class Network {
        /** More than a row can leave free: 100000 + 10 times 1000. */
        private static final int MOST_FREE = 1000000;
        /** Each push meets a need of 1 or more, and all needs together are below this. */
        private static final int MOST_PUSHES = 1000000;
        /**
         * An arc's weight is its cost, and behind it a power of two, the greater the earlier the
         * column. Flows differ by cycles that take each arc once at most, so the least weight is the
         * least value and, of these, the first point by its columns.
         */
        private static final int COST_WEIGHT = 1 << MOST_COLUMNS;

        int arcs;
        final int[] upper = new int[MOST_ARCS];
        final int[] lower = new int[MOST_ARCS];
        final int[] low = new int[MOST_ARCS];
        final int[] high = new int[MOST_ARCS];
        final int[] cost = new int[MOST_ARCS];
        final int[] amount = new int[MOST_ARCS];
        private final int[] weight = new int[MOST_ARCS];
        private final int[] need = new int[NODES];
        private final int[] distance = new int[NODES];
        private final int[] arcTo = new int[NODES];
        private final boolean[] raises = new boolean[NODES];

        /** Each arc starts at the bound that its weight likes: so no cycle is worth a change. */
        void lay(Whole whole, int[] signs) {
            Arrays.fill(need, 0);
            for (int row = 0; row < whole.rows; row++) {
                need[row] = whole.right[row] * signs[row];
                need[GROUND] -= need[row];
            }
            arcs = 0;
            for (int column = 0; column < whole.columns; column++) {
                layColumn(whole, signs, column);
            }
            for (int row = 0; row < whole.rows; row++) {
                if (whole.kind[row] == KIND_AT_MOST) {
                    layFree(row, signs[row]);
                }
            }
        }

        /** Whether every need could be met. */
        boolean balance() {
            for (int push = 0; push < MOST_PUSHES; push++) {
                if (!hasNeed()) {
                    return true;
                }
                measure();
                int end = nearestNeed();
                if (end == NONE) {
                    return false;
                }
                pushTo(end);
            }
            return false;
        }

        private void layColumn(Whole whole, int[] signs, int column) {
            int itsUpper = GROUND;
            int itsLower = GROUND;
            for (int row = 0; row < whole.rows; row++) {
                int a = whole.a[row][column] * signs[row];
                itsUpper = a > 0 ? row : itsUpper;
                itsLower = a < 0 ? row : itsLower;
            }
            int arc = addArc(itsUpper, itsLower);
            low[arc] = whole.low[column];
            high[arc] = whole.high[column];
            cost[arc] = whole.cost[column];
            weight[arc] = cost[arc] * COST_WEIGHT + (COST_WEIGHT >> (column + 1));
            amount[arc] = weight[arc] > 0 ? low[arc] : high[arc];
            need[itsUpper] -= amount[arc];
            need[itsLower] += amount[arc];
        }

        private void layFree(int row, int sign) {
            int arc = sign > 0 ? addArc(row, GROUND) : addArc(GROUND, row);
            low[arc] = 0;
            high[arc] = MOST_FREE;
            cost[arc] = 0;
            weight[arc] = 0;
            amount[arc] = 0;
        }

        private int addArc(int itsUpper, int itsLower) {
            int arc = arcs;
            upper[arc] = itsUpper;
            lower[arc] = itsLower;
            arcs = arc + 1;
            return arc;
        }

        private boolean hasNeed() {
            for (int node = 0; node < NODES; node++) {
                if (need[node] != 0) {
                    return true;
                }
            }
            return false;
        }

        /** Distances from the nodes that have too much, by the weights of what may still change. */
        private void measure() {
            for (int node = 0; node < NODES; node++) {
                distance[node] = need[node] < 0 ? 0 : FAR;
                arcTo[node] = NONE;
            }
            boolean nearer = true;
            for (int round = 0; nearer && round < NODES; round++) {
                nearer = false;
                for (int arc = 0; arc < arcs; arc++) {
                    nearer |= amount[arc] < high[arc] && comesNearer(arc, true);
                    nearer |= amount[arc] > low[arc] && comesNearer(arc, false);
                }
            }
        }

        private boolean comesNearer(int arc, boolean raise) {
            int from = raise ? lower[arc] : upper[arc];
            int to = raise ? upper[arc] : lower[arc];
            if (distance[from] == FAR) {
                return false;
            }
            int length = distance[from] + (raise ? weight[arc] : -weight[arc]);
            if (length >= distance[to]) {
                return false;
            }
            distance[to] = length;
            arcTo[to] = arc;
            raises[to] = raise;
            return true;
        }

        private int nearestNeed() {
            int nearest = NONE;
            int least = FAR;
            for (int node = 0; node < NODES; node++) {
                if (need[node] > 0 && distance[node] < least) {
                    nearest = node;
                    least = distance[node];
                }
            }
            return nearest;
        }

        private void pushTo(int end) {
            int most = need[end];
            int node = end;
            for (int step = 0; step < NODES && arcTo[node] != NONE; step++) {
                int arc = arcTo[node];
                int space = raises[node] ? high[arc] - amount[arc] : amount[arc] - low[arc];
                most = Math.min(most, space);
                node = nodeBefore(node);
            }
            most = Math.min(most, -need[node]);
            need[node] += most;
            need[end] -= most;
            node = end;
            for (int step = 0; step < NODES && arcTo[node] != NONE; step++) {
                amount[arcTo[node]] += raises[node] ? most : -most;
                node = nodeBefore(node);
            }
        }

        private int nodeBefore(int node) {
            int arc = arcTo[node];
            return raises[node] ? lower[arc] : upper[arc];
        }
    }

    /** The prices nearest to 0 that prove a balanced network's amounts to be the best. */
    private static final class Prices {
        final int[] ofRow = new int[MOST_ROWS];
        /** A level is a price times its row's sign; so limits are on differences of levels alone. */
        private final int[] level = new int[NODES];
        /** The most that the second node's level may be above the first one's. */
        private final int[][] most = new int[NODES][NODES];

        void choose(Network network, int[] signs, int rows) {
            setLimits(network);
            tightenLimits();
            level[GROUND] = 0;
            for (int row = 0; row < rows; row++) {
                level[row] = nearestToZero(row);
                ofRow[row] = level[row] * signs[row];
            }
        }

        private void setLimits(Network network) {
            for (int node = 0; node < NODES; node++) {
                Arrays.fill(most[node], FAR);
                most[node][node] = 0;
            }
            for (int arc = 0; arc < network.arcs; arc++) {
                int upper = network.upper[arc];
                int lower = network.lower[arc];
                if (network.amount[arc] < network.high[arc]) {
                    limit(lower, upper, network.cost[arc]);
                }
                if (network.amount[arc] > network.low[arc]) {
                    limit(upper, lower, -network.cost[arc]);
                }
            }
        }

        private void limit(int from, int to, int above) {
            most[from][to] = Math.min(most[from][to], above);
        }

        /** Behind this, levels that keep the limits among themselves leave levels for all others. */
        private void tightenLimits() {
            for (int middle = 0; middle < NODES; middle++) {
                for (int from = 0; from < NODES; from++) {
                    if (most[from][middle] < FAR) {
                        tightenThrough(from, middle);
                    }
                }
            }
        }

        private void tightenThrough(int from, int middle) {
            for (int to = 0; to < NODES; to++) {
                if (most[middle][to] < FAR) {
                    limit(from, to, most[from][middle] + most[middle][to]);
                }
            }
        }

        private int nearestToZero(int row) {
            int least = leastBeside(row, GROUND);
            int greatest = greatestBeside(row, GROUND);
            for (int before = 0; before < row; before++) {
                least = Math.max(least, leastBeside(row, before));
                greatest = Math.min(greatest, greatestBeside(row, before));
            }
            return least > 0 ? least : Math.min(greatest, 0);
        }

        private int leastBeside(int row, int node) {
            return most[row][node] < FAR ? level[node] - most[row][node] : -FAR;
        }

        private int greatestBeside(int row, int node) {
            return most[node][row] < FAR ? level[node] + most[node][row] : FAR;
        }
    }

    /** The least set of a flow's rows that proves that no point fits. */
    private static final class Proof {
        int rowSet;
        int ofSide;

        void search(Whole whole, int[] signs) {
            rowSet = 0;
            ofSide = 0;
            for (int set = 1; ofSide == 0 && set < 1 << whole.rows; set++) {
                rowSet = set;
                ofSide = provingSide(whole, signs, set);
            }
        }

        /** 0 if the set proves nothing on either side. */
        private int provingSide(Whole whole, int[] signs, int set) {
            int least = 0;
            int greatest = 0;
            for (int column = 0; column < whole.columns; column++) {
                int a = addUp(whole, signs, set, column);
                least += a > 0 ? a * whole.low[column] : a * whole.high[column];
                greatest += a > 0 ? a * whole.high[column] : a * whole.low[column];
            }
            int right = addRights(whole, signs, set);
            if (least > right && mayStand(whole, signs, set, 1)) {
                return 1;
            }
            if (greatest < right && mayStand(whole, signs, set, -1)) {
                return -1;
            }
            return 0;
        }

        private int addUp(Whole whole, int[] signs, int set, int column) {
            int total = 0;
            for (int row = 0; row < whole.rows; row++) {
                if (isIn(set, row)) {
                    total += whole.a[row][column] * signs[row];
                }
            }
            return total;
        }

        private int addRights(Whole whole, int[] signs, int set) {
            int total = 0;
            for (int row = 0; row < whole.rows; row++) {
                if (isIn(set, row)) {
                    total += whole.right[row] * signs[row];
                }
            }
            return total;
        }

        private boolean mayStand(Whole whole, int[] signs, int set, int side) {
            for (int row = 0; row < whole.rows; row++) {
                boolean bound = whole.kind[row] == KIND_AT_MOST && isIn(set, row);
                if (bound && signs[row] != side) {
                    return false;
                }
            }
            return true;
        }

        private static boolean isIn(int set, int row) {
            return ((set >> row) & 1) == 1;
        }
    }

    /** The best point of a knapsack. */
    private static final class Knapsack {
        /** The least value of the columns from a number on, by the load that they may have. */
        private final int[][] least = new int[MOST_COLUMNS + 1][MOST_LOAD + 1];

        void fill(Whole whole, int[] best) {
            int load = whole.right[0];
            Arrays.fill(least[whole.columns], 0);
            for (int column = whole.columns - 1; column >= 0; column--) {
                System.arraycopy(least[column + 1], 0, least[column], 0, load + 1);
                if (whole.cost[column] < 0) {
                    putInPacks(whole, column, load);
                }
            }
            for (int column = 0; column < whole.columns; column++) {
                best[column] = fewest(whole, column, load);
                load -= best[column] * whole.a[0][column];
            }
        }

        /** Packs of 1, 2, 4, .. and a rest make up every number up to the most, and are few. */
        private void putInPacks(Whole whole, int column, int load) {
            int left = mostOf(whole, column, load);
            for (int pack = 1; left > 0 && pack <= MOST_LOAD; pack *= 2) {
                int size = Math.min(pack, left);
                putPack(least[column], size * whole.a[0][column], size * whole.cost[column], load);
                left -= size;
            }
        }

        private void putPack(int[] values, int weight, int cost, int load) {
            for (int used = load; used >= weight; used--) {
                values[used] = Math.min(values[used], values[used - weight] + cost);
            }
        }

        private int mostOf(Whole whole, int column, int load) {
            int a = whole.a[0][column];
            return a > 0 ? Math.min(whole.high[column], load / a) : 0;
        }

        private int fewest(Whole whole, int column, int load) {
            int most = mostOf(whole, column, load);
            int left = load;
            for (int number = 0; number < most; number++) {
                if (number * whole.cost[column] + least[column + 1][left] == least[column][load]) {
                    return number;
                }
                left -= whole.a[0][column];
            }
            return most;
        }
    }
}
