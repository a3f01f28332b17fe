import java.lang.reflect.InvocationTargetException;
import java.lang.reflect.Method;
import java.util.Map;
import java.util.TreeMap;

/** Runs the tests of the document's boundary cases: methods, each named after the promise in which its case shows. */
public final class BoundaryTest {
    private static final Class<?>[] TESTS = {TextBounds.class, PartBounds.class, TreeBounds.class,
        AllTreesBounds.class, TwoLawsBounds.class, KindBounds.class};
    private static final int PROMISES = 28;

    public static void main(String[] args) throws Exception {
        twinsSeeChanges();
        Map<String, Method> tests = new TreeMap<>();
        for (Class<?> c : TESTS) {
            for (Method m : c.getDeclaredMethods()) {
                if (m.getName().startsWith("promise")) {
                    Due.holds("one test is named " + m.getName(), tests.put(m.getName(), m) == null);
                }
            }
        }
        for (int p = 1; p <= PROMISES; p++) {
            runTestsOf(String.format("promise%02d_", p), tests);
        }
        Due.begin("BoundaryTest");
        Due.holds("tests of no promise: " + tests.keySet(), tests.isEmpty());
        Due.finish("BoundaryTest");
    }

    private static void runTestsOf(String promise, Map<String, Method> tests) throws IllegalAccessException {
        int found = 0;
        int before = Due.asked();
        for (String name : tests.keySet().toArray(new String[0])) {
            if (name.startsWith(promise)) {
                runTest(name, tests.remove(name));
                found++;
            }
        }
        System.out.println("  " + promise.replace("_", "") + ": " + found + " tests, "
            + (Due.asked() - before) + " answers");
        Due.begin("BoundaryTest");
        Due.holds(promise + " has tests", found > 0);
    }

    private static void runTest(String name, Method test) throws IllegalAccessException {
        Due.begin(name);
        int before = Due.asked();
        try {
            test.invoke(null);
        } catch (InvocationTargetException thrown) {
            Due.holds("threw " + thrown.getCause(), false);
        }
        Due.holds("asks something", Due.asked() > before);
    }

    /** Twins whose look saw nothing would let everything pass. */
    private static void twinsSeeChanges() {
        Due.begin("Twins");
        for (Twins.Life life : Twins.Life.values()) {
            Due.holds("made alike: " + life, Twins.look(Twins.make(life)).equals(Twins.unasked(life)));
        }
        for (Twins.Life life : new Twins.Life[] {Twins.Life.USUAL, Twins.Life.FULL}) {
            seen(life, "clear", x -> x.clear());
            seen(life, "turn", x -> x.turn(0, 1 - x.rule(0, 4)));
            seen(life, "good", x -> x.good(3, 1));
            seen(life, "sign", x -> x.sign(0, 13 - x.node(0, 0)));
            seen(life, "last sign", x -> x.sign(x.count(3) - 1, 1));
            seen(life, "exchange", x -> x.exchange(0));
            seen(life, "mark", x -> x.mark(0, 0));
            seen(life, "keep 0", x -> x.keep(0));
            seen(life, "keep 1", x -> x.keep(1));
            seen(life, "back 0", x -> x.back(0));
        }
        seen(Twins.Life.NEW, "type", x -> x.type('a', 1));
        seen(Twins.Life.USUAL, "type", x -> x.type(' ', 1));
        seen(Twins.Life.NEW, "good", x -> x.good(0, 1));
        seen(Twins.Life.NEW, "keep", x -> x.keep(0));
        seen(Twins.Life.FULL, "law", x -> x.law());
        seen(Twins.Life.FULL, "the same again, from the text", x -> {
            x.clear();
            Due.type(x, Twins.FULL_TEXT.replace("a 0", "b 0"));
            return 0;
        });
    }

    private static void seen(Twins.Life life, String what, Twins.Call change) {
        TreeBecomes x = Twins.make(life);
        change.ask(x);
        Due.holds(what + " is seen: " + life, !Twins.look(x).equals(Twins.unasked(life)));
    }
}
