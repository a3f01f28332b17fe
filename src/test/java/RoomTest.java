import java.lang.reflect.Array;
import java.lang.reflect.Field;
import java.lang.reflect.Modifier;
import java.util.IdentityHashMap;
import java.util.Map;

/** What an object holds, and that no call makes anything: all of a run has to live in one room. */
public final class RoomTest {
    /** Small beside the room's 600,000 objects and arrays with 7.3 million fields and elements. */
    private static final int MOST_OBJECTS = 100;
    private static final long MOST_HELD = 28_000;

    private static final com.sun.management.ThreadMXBean THREADS =
        (com.sun.management.ThreadMXBean) java.lang.management.ManagementFactory.getThreadMXBean();
    private static final long SELF = Thread.currentThread().getId();

    private static final Map<Object, Boolean> seen = new IdentityHashMap<>();

    public static void main(String[] args) throws Exception {
        newObject();
        warmUp();
        counterCounts();
        firstCalls();
        nextCalls();
        manyCalls();
        Due.finish("RoomTest");
    }

    private static void newObject() throws IllegalAccessException {
        long fields = held(new TreeBecomes());
        Due.holds("a new object holds " + fields, fields < MOST_HELD);
        Due.holds("in so many objects: " + seen.size(), seen.size() < MOST_OBJECTS);
    }

    /** What the machine makes once, when a line is run for the first time, is none of the calls' doing. */
    private static void warmUp() {
        for (PairLaws laws : PairLaws.values()) {
            TreeBecomes x = laws.make();
            bytesOf(x, Calls.READS, Calls.ALL);
            bytesOf(x, 0, Calls.READS);
        }
    }

    /** A counter that saw nothing would let everything pass. */
    private static void counterCounts() {
        long before = THREADS.getThreadAllocatedBytes(SELF);
        Object made = new int[100];
        long bytes = THREADS.getThreadAllocatedBytes(SELF) - before;
        Due.holds("an array of 100 is counted: " + bytes, bytes >= 400 && made != null);
    }

    private static void firstCalls() throws IllegalAccessException {
        for (int call = 0; call < Calls.ALL; call++) {
            makesNothing("the first call of a new object", new TreeBecomes(), call);
        }
    }

    /** The first call of its kind on an object with a law, a tree and an image; few pairs and too many. */
    private static void nextCalls() throws IllegalAccessException {
        for (PairLaws laws : PairLaws.values()) {
            for (int call = 0; call < Calls.ALL; call++) {
                TreeBecomes x = laws.make();
                Due.tree(x, "ghabecfd");
                Due.type(x, "a 0;good 0;");
                makesNothing("the first call behind " + laws, x, call);
            }
        }
        for (int call = 0; call < Calls.ALL; call++) {
            TreeBecomes x = Due.made("a 0;b 1;g 0 1 1;good 1;", "gab");
            x.keep(0);
            Due.type(x, "gbb");
            makesNothing("the first call behind a small law", x, call);
        }
    }

    private static void makesNothing(String what, TreeBecomes x, int call) throws IllegalAccessException {
        held(x);
        Map<Object, Boolean> before = new IdentityHashMap<>(seen);
        Due.same(what + ", " + call + ", makes bytes", bytesOf(x, call, call + 1), 0);
        held(x);
        Due.holds(what + ", " + call + ", holds what it held", before.keySet().equals(seen.keySet()));
    }

    private static void manyCalls() throws IllegalAccessException {
        TreeBecomes x = PairLaws.MOST_TOLD.make();
        held(x);
        Map<Object, Boolean> before = new IdentityHashMap<>(seen);
        long bytes = 0;
        for (int k = 0; k < 400; k++) {
            Due.tree(x, "ghabecfd");
            x.turn(k % 16, k & 1);
            x.good(k % 6, k >> 1 & 1);
            bytes += bytesOf(x, Calls.READS, Calls.ALL);
        }
        bytes += bytesOf(x, 0, Calls.READS) + bytesOf(x, Calls.READS, Calls.ALL);
        Due.same("bytes that many calls make", bytes, 0);
        held(x);
        Due.holds("many calls hold what was held", before.keySet().equals(seen.keySet()));
    }

    private static long bytesOf(TreeBecomes x, int from, int to) {
        long before = THREADS.getThreadAllocatedBytes(SELF);
        for (int call = from; call < to; call++) {
            Calls.ask(x, call);
        }
        return THREADS.getThreadAllocatedBytes(SELF) - before;
    }

    /** Fields and elements of an object and of all that it holds; what was met stands in seen. */
    private static long held(Object x) throws IllegalAccessException {
        seen.clear();
        return heldBy(x);
    }

    private static long heldBy(Object x) throws IllegalAccessException {
        if (x == null || seen.put(x, true) != null) {
            return 0;
        }
        long all = 0;
        if (x.getClass().isArray()) {
            all = Array.getLength(x);
            for (int k = 0; !x.getClass().getComponentType().isPrimitive() && k < Array.getLength(x); k++) {
                all += heldBy(Array.get(x, k));
            }
            return all;
        }
        for (Field f : x.getClass().getDeclaredFields()) {
            if (!Modifier.isStatic(f.getModifiers())) {
                f.setAccessible(true);
                all += 1 + (f.getType().isPrimitive() ? 0 : heldBy(f.get(x)));
            }
        }
        return all;
    }
}
