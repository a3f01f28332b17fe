import java.util.ArrayList;
import java.util.List;
import java.util.Random;
import java.util.Set;
import java.util.TreeSet;

/** What is told of all trees, against all trees of up to six signs looked at one by one. */
public final class EnumerationTest {
    private static final int MOST = 6;
    private static final List<List<String>> TREES = new ArrayList<>();

    public static void main(String[] args) {
        enumerate();
        for (int seed = 0; seed < 25; seed++) {
            compare(new Random(seed));
        }
        Due.finish("EnumerationTest");
    }

    private static void enumerate() {
        TREES.add(new ArrayList<>());
        for (int n = 1; n <= MOST; n++) {
            Set<String> now = new TreeSet<>();
            for (char s = 'a'; s <= 'h'; s++) {
                if (Model.arms(s) == 0 && n == 1) {
                    now.add("" + s);
                }
                for (String t : Model.arms(s) == 1 ? TREES.get(n - 1) : new ArrayList<String>()) {
                    now.add(s + t);
                }
                for (int k = 1; Model.arms(s) == 2 && k < n - 1; k++) {
                    for (String a : TREES.get(k)) {
                        for (String b : TREES.get(n - 1 - k)) {
                            now.add(s + a + b);
                        }
                    }
                }
            }
            TREES.add(new ArrayList<>(now));
        }
    }

    private static String law(Random dice) {
        StringBuilder b = new StringBuilder();
        int states = 2 + dice.nextInt(4);
        for (int k = 0; k < 6 + dice.nextInt(11); k++) {
            char s = "abcdefefghghgh".charAt(dice.nextInt(14));
            b.append(s);
            for (int a = 0; a <= Model.arms(s); a++) {
                b.append(' ').append(dice.nextInt(states));
            }
            b.append(';');
        }
        return b.append("good ").append(dice.nextInt(states)).append(';').toString();
    }

    /** Whether the tree that the text is becomes good, as x tells it of that tree alone. */
    private static boolean isGood(TreeBecomes x, String t) {
        Due.tree(x, t);
        return x.isGood() == 1;
    }

    private static void compare(Random dice) {
        String text = law(dice);
        TreeBecomes x = Due.made(text, "");
        TreeBecomes other = Due.made(text, "");
        for (int k = 0; k < 3; k++) {
            int r = dice.nextInt(Math.max(1, x.count(0)));
            x.turn(r, 0);
            other.turn(r, 0);
        }
        x.keep(0);
        x.good(dice.nextInt(4), 1);
        x.turn(dice.nextInt(6), dice.nextInt(2));
        String least = "";
        String apart = "";
        for (int n = 1; n <= MOST; n++) {
            int many = 0;
            int both = 0;
            for (String t : TREES.get(n)) {
                boolean here = isGood(x, t);
                boolean there = isGood(other, t);
                many += here ? 1 : 0;
                both += here && there ? 1 : 0;
                least = here && least.isEmpty() ? t : least;
                apart = here != there && apart.isEmpty() ? t : apart;
            }
            Due.same(text + " many " + n, x.many(n), many);
            Due.same(text + " both " + n, x.both(0, n), both);
        }
        if (!least.isEmpty()) {
            Due.holds(text + " least is " + least, Due.least(x).equals(least));
        } else {
            Due.holds(text + " least is more", x.least(-1) == -9 || x.least(-1) > MOST);
        }
        if (!apart.isEmpty()) {
            Due.holds(text + " apart is " + apart, Due.apart(x, 0).equals(apart));
            Due.same(text + " alike", x.alike(0), 0);
        } else {
            Due.holds(text + " apart is more", x.apart(0, -1) == -9 || x.apart(0, -1) > MOST);
        }
    }
}
