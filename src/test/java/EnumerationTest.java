import java.util.List;
import java.util.Random;

/** What is told of all trees, against all trees of up to six signs looked at one by one. */
public final class EnumerationTest {
    private static final int MOST = 6;
    private static final List<List<String>> TREES = PlainLaw.allTrees(MOST);

    public static void main(String[] args) {
        for (int seed = 0; seed < 25; seed++) {
            compare(new Random(seed));
        }
        Due.finish("EnumerationTest");
    }

    private static void compare(Random dice) {
        PlainLaw kept = PlainLaw.byChance(dice, 2 + dice.nextInt(4));
        for (int k = 0; k < 3; k++) {
            kept.on &= ~(1 << dice.nextInt(kept.rules.size()));
        }
        PlainLaw law = kept.copy();
        law.goods |= 1 << dice.nextInt(4);
        law.on ^= 1 << dice.nextInt(6);
        String text = law.told();
        TreeBecomes x = kept.made();
        x.keep(0);
        law.show(x);
        String least = "";
        String apart = "";
        for (int n = 1; n <= MOST; n++) {
            int many = 0;
            int both = 0;
            for (String t : TREES.get(n)) {
                boolean here = law.isGood(t);
                boolean there = kept.isGood(t);
                many += here ? 1 : 0;
                both += here && there ? 1 : 0;
                least = here && least.isEmpty() ? t : least;
                apart = here != there && apart.isEmpty() ? t : apart;
            }
            Due.same(text + " many " + n, x.many(n), many);
            Due.same(text + " both " + n, x.both(0, n), both);
        }
        if (!least.isEmpty()) {
            Due.holds(text + " least is " + least, Due.least(x).equals(least));
        } else {
            Due.holds(text + " least is more", x.least(-1) == -9 || x.least(-1) > MOST);
        }
        if (!apart.isEmpty()) {
            Due.holds(text + " apart is " + apart, Due.apart(x, 0).equals(apart));
            Due.same(text + " alike", x.alike(0), 0);
        } else {
            Due.holds(text + " apart is more", x.apart(0, -1) == -9 || x.apart(0, -1) > MOST);
        }
    }
}
