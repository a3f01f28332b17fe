import java.util.ArrayList;
import java.util.EnumMap;
import java.util.List;
import java.util.Map;
import java.util.TreeSet;

/** A refused call changes nothing: of two objects made alike one is asked it, and both answer alike from then on. */
final class Twins {
    /** What an object has been through: nothing, some of all, as much of all as there may be. */
    enum Life { NEW, USUAL, FULL }

    interface Call {
        long ask(TreeBecomes x);
    }

    interface NumberCall {
        long ask(TreeBecomes x, int number);
    }

    static final String PARITY = "a 0;b 1;g 0 0 0;g 0 1 1;g 1 0 1;g 1 1 0;e 0 1;e 1 0;good 1;";
    /** 43 items in 300 bytes. */
    static final String FULL_TEXT = "good 0;".repeat(42) + "a 0;  ";
    static final int USUAL_RULES = 8;
    static final int USUAL_NODES = 6;
    /** As told: an object is used for so many calls. The dearest life is made by fewer than 140. */
    private static final int MOST_CALLS = 512 - 140;

    private static final Map<Life, List<Long>> LOOKS = new EnumMap<>(Life.class);

    private Twins() {
    }

    static TreeBecomes make(Life life) {
        switch (life) {
            case USUAL: return makeUsual();
            case FULL: return makeFull();
            default: return new TreeBecomes();
        }
    }

    /** Image 0 is kept, image 1 is not; a rule is off, a state was made good, the text has begun. */
    private static TreeBecomes makeUsual() {
        TreeBecomes x = Due.made(PARITY, "ghabec");
        x.keep(0);
        x.turn(7, 0);
        x.good(4, 1);
        x.sign(5, 0);
        x.mark(4, 1);
        Due.type(x, "e 0 1;g 1");
        return x;
    }

    /** 16 rules, 31 nodes, 300 bytes, both images, 121 pairs with image 0. */
    private static TreeBecomes makeFull() {
        TreeBecomes x = PairLaws.ONE_TOO_MANY.make();
        Due.tree(x, "g".repeat(15) + "ad".repeat(8));
        x.good(1, 1);
        x.turn(11, 0);
        x.keep(1);
        x.turn(11, 1);
        x.good(5, 1);
        x.exchange(13);
        x.mark(5, 30);
        Due.type(x, FULL_TEXT);
        return x;
    }

    static void refused(Life life, String what, long due, Call call) {
        TreeBecomes x = make(life);
        Due.same(what + " (" + life + ")", call.ask(x), due);
        Due.holds(what + " changes nothing (" + life + ")", look(x).equals(unasked(life)));
    }

    /** Refused whatever the object has been through. */
    static void refused(String what, long due, Call call) {
        for (Life life : Life.values()) {
            refused(life, what, due, call);
        }
    }

    /** Each number outside of these is refused, whatever the object has been through. */
    static void refusedOutside(String what, int least, int most, long due, NumberCall call) {
        for (int number : outside(least, most)) {
            refused(what + " with " + number, due, x -> call.ask(x, number));
        }
    }

    /** The text can't be read: the same objects with this text, of which only one is asked to read it. */
    static void unread(String text, long due, Call call) {
        for (Life life : Life.values()) {
            TreeBecomes x = make(life);
            TreeBecomes y = make(life);
            Due.text(x, text);
            Due.text(y, text);
            Due.same("[" + text + "] (" + life + ")", call.ask(x), due);
            Due.holds("[" + text + "] changes nothing (" + life + ")", look(x).equals(look(y)));
        }
    }

    static List<Long> unasked(Life life) {
        return LOOKS.computeIfAbsent(life, l -> look(make(l)));
    }

    /** Numbers on either side, near and far, and those that would be let in if bits of them were lost. */
    static int[] outside(int least, int most) {
        TreeSet<Integer> found = new TreeSet<>();
        for (int far : new int[] {0, 1, 2, 6, 8, 16, 31, 32, 64, 256, 65536, 1 << 30, Integer.MAX_VALUE}) {
            for (int from : new int[] {least, most}) {
                found.add(from + far);
                found.add(from - far);
                found.add(-far);
                found.add(far);
            }
        }
        found.add(Integer.MIN_VALUE);
        found.add(Integer.MIN_VALUE + 1);
        found.add(Integer.MAX_VALUE - 1);
        found.add(least - 1);
        found.add(most + 1);
        found.removeIf(number -> number >= least && number <= most);
        return found.stream().mapToInt(Integer::intValue).toArray();
    }

    /** All that later calls show of an object, the images and the bytes of the text last, as this uses them up. */
    static List<Long> look(TreeBecomes x) {
        List<Long> seen = new ArrayList<>();
        lookAtParts(x, seen);
        lookAtTree(x, seen);
        lookAtLaws(x, seen);
        for (int kind = 0; kind < 6; kind++) {
            add(seen, x.mark(kind, 1), x.trace());
        }
        lookAtImage(x, 0, seen);
        lookAtImage(x, 1, seen);
        lookAtText(x, seen);
        Due.holds("calls of a look: " + seen.size(), seen.size() <= MOST_CALLS);
        return seen;
    }

    private static void add(List<Long> seen, long... answers) {
        for (long answer : answers) {
            seen.add(answer);
        }
    }

    private static void lookAtParts(TreeBecomes x, List<Long> seen) {
        add(seen, x.trace(), x.count(1), x.count(2), x.count(4));
        int rules = x.count(0);
        add(seen, rules);
        for (int k = 0; k < rules; k++) {
            add(seen, x.rule(k, 0), x.rule(k, 1), x.rule(k, 2), x.rule(k, 3), x.rule(k, 4));
        }
        int nodes = x.count(3);
        add(seen, nodes);
        for (int i = 0; i < nodes; i++) {
            add(seen, x.node(i, 0), x.node(i, 3));
        }
        for (int i = 0; i < 6; i++) {
            add(seen, x.node(i, 1), x.node(i, 2));
        }
    }

    private static void lookAtTree(TreeBecomes x, List<Long> seen) {
        add(seen, x.isGood(), x.runs());
        for (int state = 0; state < 6; state++) {
            add(seen, x.places(state));
        }
        for (int i = -1; i < 8; i++) {
            add(seen, x.mend(i));
        }
    }

    private static void lookAtLaws(TreeBecomes x, List<Long> seen) {
        add(seen, x.sets(), x.classes(), x.useful(), x.many(1), x.many(4), x.many(15));
        for (int i = -1; i < 4; i++) {
            add(seen, x.least(i));
        }
        for (int image = 0; image < 2; image++) {
            add(seen, x.alike(image), x.both(image, 3), x.both(image, 15));
            for (int i = -1; i < 4; i++) {
                add(seen, x.apart(image, i));
            }
        }
    }

    private static void lookAtImage(TreeBecomes x, int image, List<Long> seen) {
        add(seen, x.back(image), x.count(2));
        int rules = x.count(0);
        add(seen, rules);
        for (int k = 0; k < rules; k++) {
            add(seen, x.rule(k, 4));
        }
        int nodes = x.count(3);
        add(seen, nodes);
        for (int i = 0; i < nodes; i++) {
            add(seen, x.node(i, 0));
        }
    }

    /** As it is, and with an end by which a law that has begun becomes whole. */
    private static void lookAtText(TreeBecomes x, List<Long> seen) {
        add(seen, x.tree(), x.count(3), x.law(), x.type(0x203220333bL, 5), x.law(), x.count(0));
        add(seen, x.rule(0, 0), x.rule(0, 1), x.rule(0, 3), x.rule(1, 0), x.rule(1, 1), x.clear());
    }
}
