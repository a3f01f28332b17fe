import java.util.Random;

/** Runs of calls by chance (the same at each run of the test), each answer against the plain model's. */
public final class ModelTest {
    private static final int RUNS = 700;
    private static final int CALLS = 120;

    private final Random dice;
    private final int run;
    private final TreeBecomes x = new TreeBecomes();
    private final Model m = new Model();
    private String told = "";

    private ModelTest(int run) {
        this.run = run;
        this.dice = new Random(run);
    }

    public static void main(String[] args) {
        int from = args.length > 0 ? Integer.parseInt(args[0]) : 0;
        int runs = args.length > 1 ? Integer.parseInt(args[1]) : RUNS;
        for (int run = from; run < from + runs; run++) {
            new ModelTest(run).calls();
        }
        for (PairLaws laws : PairLaws.values()) {
            new ModelTest(laws.ordinal()).manyPairs(laws);
        }
        Due.finish("ModelTest");
    }

    private void due(String call, long got, long want) {
        Due.same("run " + run + told + ": " + call, got, want);
    }

    private void type(String text) {
        int at = 0;
        while (at < text.length()) {
            int n = Math.min(1 + dice.nextInt(8), text.length() - at);
            long v = dice.nextLong();
            for (int k = 0; k < n; k++) {
                v = v << 8 | text.charAt(at + k);
            }
            at += n;
            due("type", x.type(v, n), m.type(v, n));
        }
    }

    private String law() {
        int rules = dice.nextInt(5) == 0 ? dice.nextInt(17) : 6 + dice.nextInt(11);
        int states = 1 + dice.nextInt(2) + dice.nextInt(2) + dice.nextInt(4);
        StringBuilder b = new StringBuilder();
        for (int k = 0; k < rules; k++) {
            char s = "abcdabefefghghgh".charAt(dice.nextInt(16));
            b.append(s);
            for (int a = 0; a <= Model.arms(s); a++) {
                b.append(' ').append(dice.nextInt(states));
            }
            b.append(';');
        }
        for (int k = dice.nextInt(4); k > 0; k--) {
            b.append("good ").append(dice.nextInt(states)).append(";");
        }
        return b.toString();
    }

    private String tree(int most) {
        StringBuilder b = new StringBuilder();
        int missing = 1;
        while (missing > 0) {
            String from = b.length() + missing >= most ? "abcd" : b.length() + missing + 1 >= most ? "abef" : "abcefggghhh";
            char s = from.charAt(dice.nextInt(from.length()));
            b.append(s);
            missing += Model.arms(s) - 1;
        }
        return b.toString();
    }

    /** Trees by chance mostly come to nothing: of several one that comes to some state. */
    private String fittingTree(int most) {
        String t = tree(most);
        for (int k = 0; k < 40 && m.comesToNothing(t); k++) {
            t = tree(most);
        }
        return t;
    }

    private String spoilt(String text) {
        StringBuilder b = new StringBuilder(text);
        String signs = " ;0156789abghgoodiz!A";
        int at = dice.nextInt(b.length() + 1);
        switch (dice.nextInt(4)) {
            case 0:
                b.insert(at, signs.charAt(dice.nextInt(signs.length())));
                break;
            case 1:
                b.setLength(at);
                break;
            case 2:
                if (at < b.length()) {
                    b.deleteCharAt(at);
                }
                break;
            default:
                if (at < b.length()) {
                    b.setCharAt(at, signs.charAt(dice.nextInt(signs.length())));
                }
        }
        return b.toString();
    }

    private void readLaw() {
        String text = law();
        if (dice.nextInt(3) == 0) {
            text = spoilt(text);
        }
        type(text);
        told += " law[" + text + "]";
        due("law()", x.law(), m.law());
        due("clear()", x.clear(), m.clear());
    }

    private void readTree() {
        int most = dice.nextInt(6) == 0 ? 31 : 2 + dice.nextInt(11);
        String text = dice.nextInt(4) == 0 ? tree(most) : fittingTree(most);
        if (dice.nextInt(3) == 0) {
            text = spoilt(text);
        }
        type(text);
        told += " tree[" + text + "]";
        due("tree()", x.tree(), m.tree());
        due("clear()", x.clear(), m.clear());
    }

    private int near(int most) {
        return dice.nextInt(most + 2) - 1;
    }

    private void calls() {
        readLaw();
        readTree();
        for (int k = 0; k < CALLS; k++) {
            int which = dice.nextInt(40);
            if (which < 12) {
                change(which);
            } else if (which < 22) {
                askTree(which);
            } else {
                askAll(which);
            }
        }
    }

    /** The edge of what two laws may come to, with each single state good. */
    private void manyPairs(PairLaws laws) {
        told += " pairs " + laws.pairs;
        type(laws.law);
        due("law()", x.law(), m.law());
        turnTo(laws.kept);
        due("sets", x.sets(), m.sets());
        due("classes", x.classes(), m.classes());
        due("keep", x.keep(0), m.keep(0));
        turnTo(laws.then);
        due("pairs of the model", m.pairCount(0), laws.pairs);
        for (int s = 0; s < 6; s++) {
            turnTo(laws.kept);
            due("good", x.good(s, 1), m.good(s, 1));
            due("keep", x.keep(0), m.keep(0));
            turnTo(laws.then);
            due("alike", x.alike(0), m.alike(0));
            for (int i = -1; i < 12; i++) {
                due("apart " + i, x.apart(0, i), m.apart(0, i));
                due("least " + i, x.least(i), m.least(i));
            }
            for (int n = 1; n < 8; n++) {
                due("both " + n, x.both(0, n), m.both(0, n));
                due("many " + n, x.many(n), m.many(n));
            }
            due("classes", x.classes(), m.classes());
            due("good", x.good(s, 0), m.good(s, 0));
        }
    }

    private void turnTo(int bits) {
        for (int k = 0; k < m.count(0); k++) {
            int is = bits >> k & 1;
            due("turn", x.turn(k, is), m.turn(k, is));
        }
    }

    private void change(int which) {
        int i = near(12);
        int b = near(2);
        int r = near(16);
        int s = near(6);
        int its = near(8);
        int image = dice.nextInt(20) == 0 ? near(3) : dice.nextInt(2);
        switch (which) {
            case 0: case 1: case 2:
                told += " turn " + r + " " + b;
                due("turn", x.turn(r, b), m.turn(r, b));
                break;
            case 3: case 4:
                told += " good " + s + " " + b;
                due("good", x.good(s, b), m.good(s, b));
                break;
            case 5:
                told += " sign " + i + " " + its;
                due("sign", x.sign(i, its), m.sign(i, its));
                break;
            case 6:
                told += " exchange " + i;
                due("exchange", x.exchange(i), m.exchange(i));
                break;
            case 7:
                told += " keep " + image;
                due("keep", x.keep(image), m.keep(image));
                break;
            case 8:
                told += " back " + image;
                due("back", x.back(image), m.back(image));
                break;
            case 9:
                readTree();
                break;
            case 10:
                if (dice.nextInt(4) == 0) {
                    readLaw();
                }
                break;
            default:
                due("count " + i, x.count(i), m.count(i));
        }
    }

    private void askTree(int which) {
        int i = near(14);
        int what = near(5);
        switch (which) {
            case 12: case 13: case 14:
                due("node " + i + " " + what, x.node(i, what), m.node(i, what));
                break;
            case 15:
                due("isGood", x.isGood(), m.isGood());
                break;
            case 16:
                due("runs", x.runs(), m.runs());
                break;
            case 17:
                due("places " + what, x.places(what), m.places(what));
                break;
            case 18: case 19:
                due("mend " + i, x.mend(i), m.mend(i));
                due("mend -1", x.mend(-1), m.mend(-1));
                break;
            case 20:
                due("mark " + what + " " + i, x.mark(what, i), m.mark(what, i));
                due("trace", x.trace(), m.trace());
                break;
            default:
                due("rule " + i + " " + what, x.rule(i, what), m.rule(i, what));
        }
    }

    private void askAll(int which) {
        int i = near(8);
        int n = dice.nextInt(10) == 0 ? near(17) : 1 + dice.nextInt(6);
        int image = dice.nextInt(20) == 0 ? near(3) : dice.nextInt(2);
        switch (which) {
            case 22:
                due("sets", x.sets(), m.sets());
                break;
            case 23:
                due("classes", x.classes(), m.classes());
                break;
            case 24:
                due("useful", x.useful(), m.useful());
                break;
            case 25: case 26:
                due("least " + i, x.least(i), m.least(i));
                break;
            case 27:
                due("many " + n, x.many(n), m.many(n));
                break;
            case 28:
                due("alike " + image, x.alike(image), m.alike(image));
                break;
            case 29: case 30:
                due("apart " + image + " " + i, x.apart(image, i), m.apart(image, i));
                break;
            case 31:
                due("both " + image + " " + n, x.both(image, n), m.both(image, n));
                break;
            default:
                break;
        }
    }
}
