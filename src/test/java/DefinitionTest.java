import java.util.ArrayList;
import java.util.HashSet;
import java.util.List;
import java.util.Map;
import java.util.Random;
import java.util.Set;
import java.util.TreeMap;

/** What is told of one tree, and sets, classes and useful states, each looked for as the document defines it. */
public final class DefinitionTest {
    private static final int ONE_TREE_RUNS = 400;
    private static final int ALL_TREES_RUNS = 60;
    /**
     * By a law of two states the other one is reached by three signs at most; so seven are enough for a tree that
     * shows a state useful: one sign over a part that comes to it and over another part.
     */
    private static final int SHOWS_USEFUL = 7;
    private static final int TWO_STATES = 2;

    private static final List<List<String>> TREES = PlainLaw.allTrees(SHOWS_USEFUL);

    public static void main(String[] args) {
        for (int seed = 0; seed < ONE_TREE_RUNS; seed++) {
            oneTree(new Random(seed));
        }
        for (int seed = 0; seed < ALL_TREES_RUNS; seed++) {
            PlainLaw law = PlainLaw.byChance(new Random(1000 + seed), TWO_STATES);
            TreeBecomes x = law.made();
            Due.same(law.told() + ": useful", x.useful(), useful(law));
            Map<Integer, String> oneOfEach = oneTreeOfEachSet(law);
            Due.same(law.told() + ": sets", x.sets(), oneOfEach.size());
            Due.same(law.told() + ": classes", x.classes(), classes(law, new ArrayList<>(oneOfEach.values())));
        }
        Due.finish("DefinitionTest");
    }

    // ---- one tree

    private static void oneTree(Random dice) {
        PlainLaw law = PlainLaw.byChance(dice, 1 + dice.nextInt(4));
        law.on &= ~(1 << dice.nextInt(16));
        law.goods |= 1 << dice.nextInt(6);
        String t = dice.nextBoolean() ? someTree(dice) : goodTree(dice, law);
        String told = law.told() + " " + t;
        TreeBecomes x = law.made();
        Due.same(told + ": tree", Due.tree(x, t), t.length());
        int[] places = new int[6];
        for (int i = 0; i < t.length(); i++) {
            int states = law.comesTo(Model.part(t, i));
            Due.same(told + ": node " + i, x.node(i, 3), states);
            for (int s = 0; s < 6; s++) {
                places[s] |= (states >> s & 1) << i;
            }
        }
        for (int s = 0; s < 6; s++) {
            Due.same(told + ": places " + s, x.places(s), places[s]);
        }
        int ways = law.goodWays(t).size();
        Due.same(told + ": isGood", x.isGood(), ways > 0 ? 1 : 0);
        Due.same(told + ": runs", x.runs(), ways % 1000003);
        mend(told, x, law, t);
    }

    private static String someTree(Random dice) {
        List<String> trees = TREES.get(1 + dice.nextInt(SHOWS_USEFUL));
        return trees.get(dice.nextInt(trees.size()));
    }

    /** Few trees by chance are good: of several the one with the most ways. */
    private static String goodTree(Random dice, PlainLaw law) {
        String best = someTree(dice);
        for (int k = 0; k < 200; k++) {
            String t = someTree(dice);
            best = law.goodWays(t).size() > law.goodWays(best).size() ? t : best;
        }
        return best;
    }

    /** Every tree of this form is looked at, the first by signs first. */
    private static void mend(String told, TreeBecomes x, PlainLaw law, String t) {
        String best = "";
        for (String other : sameForm(t)) {
            if (law.isGood(other) && (best.isEmpty() || changes(t, other) < changes(t, best))) {
                best = other;
            }
        }
        Due.same(told + ": mend", x.mend(-1), best.isEmpty() ? TreeBecomes.NONE : changes(t, best));
        for (int i = 0; i < t.length(); i++) {
            Due.same(told + ": mend " + i, x.mend(i), best.isEmpty() ? TreeBecomes.NONE : best.charAt(i) - 'a');
        }
    }

    private static List<String> sameForm(String t) {
        List<String> found = new ArrayList<>(List.of(""));
        for (char c : t.toCharArray()) {
            List<String> longer = new ArrayList<>();
            for (String begun : found) {
                for (char s = 'a'; s <= 'h'; s++) {
                    if (Model.arms(s) == Model.arms(c)) {
                        longer.add(begun + s);
                    }
                }
            }
            found = longer;
        }
        return found;
    }

    private static int changes(String a, String b) {
        int all = 0;
        for (int i = 0; i < a.length(); i++) {
            all += a.charAt(i) == b.charAt(i) ? 0 : 1;
        }
        return all;
    }

    // ---- all trees

    private static int useful(PlainLaw law) {
        int states = 0;
        for (List<String> trees : TREES) {
            for (String t : trees) {
                for (int[] way : law.goodWays(t)) {
                    for (int s : way) {
                        states |= 1 << s;
                    }
                }
            }
        }
        return states;
    }

    /** By the set, as bits; what one sign more makes of trees that stand here comes to no other set. */
    private static Map<Integer, String> oneTreeOfEachSet(PlainLaw law) {
        Map<Integer, String> found = new TreeMap<>();
        int had = -1;
        while (found.size() != had) {
            had = found.size();
            List<String> parts = new ArrayList<>(found.values());
            for (String t : TREES.get(1)) {
                found.putIfAbsent(law.comesTo(t), t);
            }
            for (String part : parts) {
                for (String t : oneSignMore(part, parts)) {
                    found.putIfAbsent(law.comesTo(t), t);
                }
            }
        }
        return found;
    }

    /** All trees of which a part is an arm, beside others if there are two arms. */
    private static List<String> oneSignMore(String part, List<String> others) {
        List<String> trees = new ArrayList<>(List.of("e" + part, "f" + part));
        for (String other : others) {
            trees.addAll(List.of("g" + part + other, "h" + part + other, "g" + other + part, "h" + other + part));
        }
        return trees;
    }

    /**
     * Trees are told apart by what greater trees with them in one place are. By two states there are four sets at
     * most, so two signs over that place are enough: each sign over it that tells anything tells a class more.
     */
    private static int classes(PlainLaw law, List<String> trees) {
        Set<List<Boolean>> seen = new HashSet<>();
        for (String t : trees) {
            List<Boolean> goods = new ArrayList<>();
            goods.add(law.isGood(t));
            for (String over : oneSignMore(t, trees)) {
                goods.add(law.isGood(over));
                for (String overThat : oneSignMore(over, trees)) {
                    goods.add(law.isGood(overThat));
                }
            }
            seen.add(goods);
        }
        return seen.size();
    }
}
