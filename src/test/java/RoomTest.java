import java.lang.reflect.Array;
import java.lang.reflect.Field;
import java.lang.reflect.Modifier;
import java.util.IdentityHashMap;
import java.util.Map;

/** What an object holds, and that no call makes anything: all of a run has to live in one room. */
public final class RoomTest {
    /** Small beside the room's 600,000 objects and arrays with 7.3 million fields and elements. */
    private static final int MOST_OBJECTS = 100;
    private static final long MOST_HELD = 28_000;
    /** The calls of the document's face, numbered for ask(). */
    private static final int CALLS = 27;
    /** Those before it change the text, the law or the tree. */
    private static final int READS = 4;

    private static final com.sun.management.ThreadMXBean THREADS =
        (com.sun.management.ThreadMXBean) java.lang.management.ManagementFactory.getThreadMXBean();
    private static final long SELF = Thread.currentThread().getId();

    private static final Map<Object, Boolean> seen = new IdentityHashMap<>();

    public static void main(String[] args) throws Exception {
        newObject();
        warmUp();
        counterCounts();
        firstCalls();
        nextCalls();
        manyCalls();
        Due.finish("RoomTest");
    }

    private static void newObject() throws IllegalAccessException {
        long fields = held(new TreeBecomes());
        Due.holds("a new object holds " + fields, fields < MOST_HELD);
        Due.holds("in so many objects: " + seen.size(), seen.size() < MOST_OBJECTS);
    }

    /** What the machine makes once, when a line is run for the first time, is none of the calls' doing. */
    private static void warmUp() {
        for (PairLaws laws : PairLaws.values()) {
            TreeBecomes x = laws.make();
            bytesOf(x, READS, CALLS);
            bytesOf(x, 0, READS);
        }
    }

    /** A counter that saw nothing would let everything pass. */
    private static void counterCounts() {
        long before = THREADS.getThreadAllocatedBytes(SELF);
        Object made = new int[100];
        long bytes = THREADS.getThreadAllocatedBytes(SELF) - before;
        Due.holds("an array of 100 is counted: " + bytes, bytes >= 400 && made != null);
    }

    private static void firstCalls() throws IllegalAccessException {
        for (int call = 0; call < CALLS; call++) {
            makesNothing("the first call of a new object", new TreeBecomes(), call);
        }
    }

    /** The first call of its kind on an object with a law, a tree and an image; few pairs and too many. */
    private static void nextCalls() throws IllegalAccessException {
        for (PairLaws laws : PairLaws.values()) {
            for (int call = 0; call < CALLS; call++) {
                TreeBecomes x = laws.make();
                Due.tree(x, "ghabecfd");
                Due.type(x, "a 0;good 0;");
                makesNothing("the first call behind " + laws, x, call);
            }
        }
        for (int call = 0; call < CALLS; call++) {
            TreeBecomes x = Due.made("a 0;b 1;g 0 1 1;good 1;", "gab");
            x.keep(0);
            Due.type(x, "gbb");
            makesNothing("the first call behind a small law", x, call);
        }
    }

    private static void makesNothing(String what, TreeBecomes x, int call) throws IllegalAccessException {
        held(x);
        Map<Object, Boolean> before = new IdentityHashMap<>(seen);
        Due.same(what + ", " + call + ", makes bytes", bytesOf(x, call, call + 1), 0);
        held(x);
        Due.holds(what + ", " + call + ", holds what it held", before.keySet().equals(seen.keySet()));
    }

    private static void manyCalls() throws IllegalAccessException {
        TreeBecomes x = PairLaws.MOST_TOLD.make();
        held(x);
        Map<Object, Boolean> before = new IdentityHashMap<>(seen);
        long bytes = 0;
        for (int k = 0; k < 400; k++) {
            Due.tree(x, "ghabecfd");
            x.turn(k % 16, k & 1);
            x.good(k % 6, k >> 1 & 1);
            bytes += bytesOf(x, READS, CALLS);
        }
        bytes += bytesOf(x, 0, READS) + bytesOf(x, READS, CALLS);
        Due.same("bytes that many calls make", bytes, 0);
        held(x);
        Due.holds("many calls hold what was held", before.keySet().equals(seen.keySet()));
    }

    private static long bytesOf(TreeBecomes x, int from, int to) {
        long before = THREADS.getThreadAllocatedBytes(SELF);
        for (int call = from; call < to; call++) {
            ask(x, call);
        }
        return THREADS.getThreadAllocatedBytes(SELF) - before;
    }

    private static long ask(TreeBecomes x, int call) {
        switch (call) {
            case 0: return x.type(0x676162L, 3);
            case 1: return x.clear();
            case 2: return x.law();
            case 3: return x.tree();
            case 4: return x.rule(0, 0);
            case 5: return x.turn(3, 0);
            case 6: return x.good(2, 1);
            case 7: return x.node(0, 3);
            case 8: return x.sign(1, 2);
            case 9: return x.exchange(0);
            case 10: return x.isGood();
            case 11: return x.runs();
            case 12: return x.places(1);
            case 13: return x.mend(-1) + x.mend(1);
            case 14: return x.sets();
            case 15: return x.classes();
            case 16: return x.useful();
            case 17: return x.least(-1) + x.least(1);
            case 18: return x.many(15);
            case 19: return x.alike(0);
            case 20: return x.apart(0, -1) + x.apart(0, 1);
            case 21: return x.both(0, 15);
            case 22: return x.mark(4, 1);
            case 23: return x.keep(1);
            case 24: return x.back(0);
            case 25: return x.count(1);
            default: return x.trace();
        }
    }

    /** Fields and elements of an object and of all that it holds; what was met stands in seen. */
    private static long held(Object x) throws IllegalAccessException {
        seen.clear();
        return heldBy(x);
    }

    private static long heldBy(Object x) throws IllegalAccessException {
        if (x == null || seen.put(x, true) != null) {
            return 0;
        }
        long all = 0;
        if (x.getClass().isArray()) {
            all = Array.getLength(x);
            for (int k = 0; !x.getClass().getComponentType().isPrimitive() && k < Array.getLength(x); k++) {
                all += heldBy(Array.get(x, k));
            }
            return all;
        }
        for (Field f : x.getClass().getDeclaredFields()) {
            if (!Modifier.isStatic(f.getModifiers())) {
                f.setAccessible(true);
                all += 1 + (f.getType().isPrimitive() ? 0 : heldBy(f.get(x)));
            }
        }
        return all;
    }
}
