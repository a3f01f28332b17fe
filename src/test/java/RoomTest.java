import java.lang.reflect.Array;
import java.lang.reflect.Field;
import java.lang.reflect.Modifier;
import java.util.IdentityHashMap;
import java.util.Map;

/** What an object holds, and that calls make nothing anew: all of a run has to live in one room. */
public final class RoomTest {
    /** A room of 7.3 million fields and elements for 512 objects that each are asked but once. */
    private static final long MOST_HELD = 28_000;

    private static final Map<Object, Boolean> seen = new IdentityHashMap<>();

    public static void main(String[] args) throws Exception {
        TreeBecomes x = PairLaws.MOST_TOLD.make();
        long fresh = held(new TreeBecomes());
        Due.holds("a new object holds " + fresh, fresh < 4_000);
        allCalls(x, 0);
        long before = held(x);
        Object pairs = pairsOf(x);
        for (int k = 0; k < 400; k++) {
            allCalls(x, k);
        }
        Due.holds("an object holds " + before, before < MOST_HELD);
        Due.same("nothing more is held", held(x), before);
        Due.holds("the pairs are used again", pairsOf(x) == pairs);
        Due.same("bytes that later calls make", bytesOf(x), 0);
        Due.finish("RoomTest");
    }

    private static Object pairsOf(TreeBecomes x) throws Exception {
        Field f = TreeBecomes.class.getDeclaredField("pairs");
        f.setAccessible(true);
        return f.get(x);
    }

    private static long bytesOf(TreeBecomes x) {
        com.sun.management.ThreadMXBean threads =
            (com.sun.management.ThreadMXBean) java.lang.management.ManagementFactory.getThreadMXBean();
        long self = Thread.currentThread().getId();
        threads.getThreadAllocatedBytes(self);
        long before = threads.getThreadAllocatedBytes(self);
        allCalls(x, 3);
        allCalls(x, 4);
        return threads.getThreadAllocatedBytes(self) - before;
    }

    private static void allCalls(TreeBecomes x, int k) {
        x.turn(k % 16, k & 1);
        x.good(k % 6, k >> 1 & 1);
        x.type(0x676162L, 3);
        x.tree();
        x.type(0x6120303b, 4);
        if (k == 399) {
            x.law();
        }
        x.clear();
        x.sign(1, k & 3);
        x.exchange(0);
        x.node(0, 3);
        x.rule(0, 0);
        x.isGood();
        x.runs();
        x.places(k % 6);
        x.mend(-1);
        x.mend(1);
        x.keep(k % 2);
        x.turn(3, 0);
        x.sets();
        x.classes();
        x.useful();
        x.least(-1);
        x.least(0);
        x.many(15);
        x.alike(k % 2);
        x.apart(k % 2, -1);
        x.apart(k % 2, 2);
        x.both(k % 2, 15);
        x.mark(k % 6, 1);
        x.back(k % 2);
        x.count(1);
        x.trace();
    }

    /** Fields and elements of an object and of all that it holds. */
    private static long held(Object x) throws IllegalAccessException {
        seen.clear();
        return heldBy(x);
    }

    private static long heldBy(Object x) throws IllegalAccessException {
        if (x == null || seen.put(x, true) != null) {
            return 0;
        }
        long all = 0;
        if (x.getClass().isArray()) {
            all = Array.getLength(x);
            for (int k = 0; !x.getClass().getComponentType().isPrimitive() && k < Array.getLength(x); k++) {
                all += heldBy(Array.get(x, k));
            }
            return all;
        }
        for (Field f : x.getClass().getDeclaredFields()) {
            if (!Modifier.isStatic(f.getModifiers())) {
                f.setAccessible(true);
                all += 1 + (f.getType().isPrimitive() ? 0 : heldBy(f.get(x)));
            }
        }
        return all;
    }
}
