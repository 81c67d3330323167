import com.sun.management.ThreadMXBean;
import java.lang.management.ManagementFactory;
import java.lang.reflect.Array;
import java.lang.reflect.Field;
import java.lang.reflect.Modifier;
import java.util.ArrayDeque;
import java.util.Collections;
import java.util.Deque;
import java.util.IdentityHashMap;
import java.util.Set;

/** Rule 12 of ../shared/LANGUAGE.md: a new object is small, and no call that answers makes anything. */
public final class RoomTest {
    private static final ThreadMXBean THREADS = (ThreadMXBean) ManagementFactory.getThreadMXBean();

    private RoomTest() {
    }

    /** The fields and elements of all that can be reached. */
    private static int[] sizeOf(FlowParts x) throws IllegalAccessException {
        Set<Object> known = Collections.newSetFromMap(new IdentityHashMap<>());
        Deque<Object> left = new ArrayDeque<>();
        int elements = 0;
        left.add(x);
        known.add(x);
        while (!left.isEmpty()) {
            Object next = left.remove();
            elements += next.getClass().isArray() ? addArray(next, left, known) : addFields(next, left, known);
        }
        return new int[] {known.size(), elements};
    }

    private static int addArray(Object array, Deque<Object> left, Set<Object> known) {
        int length = Array.getLength(array);
        if (!array.getClass().getComponentType().isPrimitive()) {
            for (int k = 0; k < length; k++) {
                addFound(Array.get(array, k), left, known);
            }
        }
        return length;
    }

    private static int addFields(Object object, Deque<Object> left, Set<Object> known)
            throws IllegalAccessException {
        int count = 0;
        for (Field field : object.getClass().getDeclaredFields()) {
            if (Modifier.isStatic(field.getModifiers())) {
                continue;
            }
            count++;
            if (!field.getType().isPrimitive()) {
                field.setAccessible(true);
                addFound(field.get(object), left, known);
            }
        }
        return count;
    }

    private static void addFound(Object found, Deque<Object> left, Set<Object> known) {
        if (found != null && known.add(found)) {
            left.add(found);
        }
    }

    private static FlowParts flow(int right) {
        FlowParts x = new FlowParts();
        for (int row = 0; row < 8; row++) {
            x.row(row % 2, row == 7 ? right : 0);
        }
        for (int column = 0; column < 10; column++) {
            x.column(-1000, 1000, column * 7 % 5 - 2);
            x.term(column % 8, column, 1);
            x.term((column + 1) % 8, column, -1);
        }
        return x;
    }

    private static FlowParts sack() {
        FlowParts x = new FlowParts();
        x.row(0, 300);
        for (int column = 0; column < 10; column++) {
            x.column(0, 1000, -column - 1);
            x.term(0, column, column + 2);
        }
        return x;
    }

    /** Every call that does not throw in any state, twenty times over. */
    private static long askAgain(FlowParts x) {
        long mixed = 0;
        for (int round = 0; round < 20; round++) {
            x.term(0, 0, 1);
            x.bounds(0, 0, 1000);
            mixed += x.cost(1, -3) + x.right(0, 0) + x.right(0, 300);
            mixed += x.parts() + x.part(0) + x.flow() + x.intervals() + x.nature() + x.solve();
            mixed += Told.asInt(x.knapsack()) + Told.asInt(x.matching()) + Told.asInt(x.way());
        }
        return mixed;
    }

    private static long readBest(FlowParts x, boolean isFlow) {
        long mixed = x.solve() + x.value() + x.at(9) + x.sum(0);
        return isFlow ? mixed + x.sign(0) + x.price(0) + x.reduced(9) : mixed;
    }

    private static long readNone(FlowParts x) {
        return x.solve() + x.proof() + x.side();
    }

    private static long madeByAll(FlowParts good, FlowParts bad, FlowParts packed) {
        long before = THREADS.getCurrentThreadAllocatedBytes();
        long mixed = askAgain(good) + askAgain(packed) + readNone(bad) + readBest(packed, false);
        mixed += readBest(good, true) + good.clear() + good.column(0, 1, 2) + good.row(0, 0);
        long after = THREADS.getCurrentThreadAllocatedBytes();
        Due.holds("the answers were used", mixed != Long.MIN_VALUE);
        return after - before;
    }

    public static void main(String[] args) throws IllegalAccessException {
        Due.about("rule 12: what a run makes is counted: keep it small");
        int[] size = sizeOf(new FlowParts());
        Due.holds("a new object's " + size[0] + " objects and arrays are below 100", size[0] < 100);
        Due.holds("their " + size[1] + " fields and elements are below 10000", size[1] < 10000);
        madeByAll(flow(0), flow(-100000), sack());
        long made = madeByAll(flow(0), flow(-100000), sack());
        Due.same("bytes made by calls that answer", made, 0);
        Due.end();
    }
}
