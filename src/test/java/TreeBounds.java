import java.math.BigInteger;

/** Boundary cases of promises 12 to 15: isGood, runs, places, mend. */
final class TreeBounds {
    private static final int BAD = -1, STATE = -2, NONE = -9;
    private static final int REMAINDER = 1000003;
    private static final String FULL_TREE = "g".repeat(15) + "a".repeat(16);
    /** State 0 is come to in as many ways as binary digits tell: e doubles them, f doubles them and adds one. */
    private static final String BINARY = "a 0;a 1;e 0 0;e 0 0;e 1 1;f 0 0;f 0 0;f 1 0;f 1 1;good 0;";

    private TreeBounds() {
    }

    // ---- 12: isGood

    static void promise12_isGood_needsATree() {
        Twins.refused(Twins.Life.NEW, "a new object", STATE, x -> x.isGood());
        TreeBecomes x = Due.made("a 0;good 0;", "");
        Due.same("a law alone", x.isGood(), STATE);
        x.keep(0);
        Due.tree(x, "a");
        Due.same("a tree", x.isGood(), 1);
        x.back(0);
        Due.same("back to none", x.isGood(), STATE);
        Due.same("a fault", Due.tree(x, "ab"), -11);
        Due.same("still none", x.isGood(), STATE);
    }

    static void promise12_isGood_needsAGoodStateOfNode0() {
        TreeBecomes x = Due.made("a 0;e 0 1;", "ea");
        Due.same("nothing is good", x.isGood(), 0);
        x.good(0, 1);
        Due.same("node 1 alone has a good state", x.isGood(), 0);
        x.good(1, 1);
        Due.same("node 0 has", x.isGood(), 1);
        x.turn(1, 0);
        Due.same("not by a rule that is off", x.isGood(), 0);
        Due.tree(x, "b");
        for (int state = 0; state <= 5; state++) {
            x.good(state, 1);
        }
        Due.same("no state, though all are good", x.isGood(), 0);
    }

    static void promise12_isGood_byOneOfManyStates() {
        for (int state = 0; state <= 5; state++) {
            TreeBecomes x = Due.made("a 0;a 1;a 2;a 3;a 4;a 5;good " + state + ";", "a");
            Due.same("state " + state, x.isGood(), 1);
            x.turn(state, 0);
            Due.same("without it", x.isGood(), 0);
        }
    }

    // ---- 13: runs

    static void promise13_runs_needATree() {
        Twins.refused(Twins.Life.NEW, "a new object", STATE, x -> x.runs());
        TreeBecomes x = Due.made(BINARY, "");
        Due.same("a law alone", x.runs(), STATE);
    }

    /** From the root down the digits from the lowest up; the leaf is the highest. */
    private static String treeOf(long number) {
        StringBuilder b = new StringBuilder();
        for (long left = number; left > 1; left /= 2) {
            b.append(left % 2 == 0 ? 'e' : 'f');
        }
        return b.append('a').toString();
    }

    static void promise13_runs_areLeftOverBy1000003() {
        long[] numbers = {1, 2, 3, REMAINDER - 1, REMAINDER, REMAINDER + 1, 2 * REMAINDER - 1, 2 * REMAINDER,
            2 * REMAINDER + 1, 1000L * REMAINDER, 1000L * REMAINDER + REMAINDER - 1, (1L << 31) - 1};
        for (long number : numbers) {
            TreeBecomes x = Due.made(BINARY, treeOf(number));
            Due.same("runs of " + number, x.runs(), number % REMAINDER);
            Due.same("it is good however many are left over", x.isGood(), 1);
        }
    }

    /** What several good states come to is left over, too. */
    static void promise13_runs_addUpOverGoodStates() {
        TreeBecomes x = Due.made(BINARY, treeOf(REMAINDER - 1));
        Due.same("state 0", x.runs(), REMAINDER - 1);
        x.good(1, 1);
        Due.same("and one way more", x.runs(), 0);
        x.good(0, 0);
        Due.same("that one alone", x.runs(), 1);
        x.good(1, 0);
        Due.same("nothing good", x.runs(), 0);
        Due.same("all good", goodWays("a 0;a 1;a 2;a 3;a 4;a 5;good 0 1 2 3 4 5;", "a"), 6);
    }

    private static long goodWays(String law, String tree) {
        return Due.made(law, tree).runs();
    }

    static void promise13_runs_ofTheGreatestTree() {
        String law = "a 0;".repeat(8) + "g 0 0 0;".repeat(8) + "good 0;";
        BigInteger due = BigInteger.valueOf(8).pow(31).mod(BigInteger.valueOf(REMAINDER));
        Due.same("8 ways for each of 31", goodWays(law, FULL_TREE), due.longValue());
        law = "a 0;" + "e 0 0;".repeat(15) + "good 0;";
        due = BigInteger.valueOf(15).pow(30).mod(BigInteger.valueOf(REMAINDER));
        Due.same("15 ways for each of 30", goodWays(law, "e".repeat(30) + "a"), due.longValue());
    }

    static void promise13_runs_maybeNone() {
        Due.same("no rule for the sign", goodWays("a 0;good 0;", "b"), 0);
        Due.same("no rule at all", goodWays("good 0;", "a"), 0);
        Due.same("another state", goodWays("a 1;good 0;", "a"), 0);
        Due.same("an arm that fits none", goodWays("a 0;e 1 0;good 0;", "ea"), 0);
        Due.same("a second arm that fits none", goodWays("a 0;g 0 1 0;good 0;", "gaa"), 0);
        TreeBecomes x = Due.made("a 0;a 0;good 0;", "a");
        x.turn(1, 0);
        Due.same("rules that are on", x.runs(), 1);
        x.turn(0, 0);
        Due.same("all are off", x.runs(), 0);
    }

    // ---- 14: places

    static void promise14_places_refusesStatesThatAreNot() {
        Twins.refusedOutside("places", 0, 5, BAD, (x, state) -> x.places(state));
    }

    static void promise14_places_areNoneWithoutATree() {
        TreeBecomes x = Due.made("a 0;", "");
        for (int state = 0; state <= 5; state++) {
            Due.same("state " + state, x.places(state), 0);
        }
    }

    static void promise14_places_reachNode30() {
        TreeBecomes x = Due.made("a 5;", "e".repeat(30) + "a");
        Due.same("node 30 alone", x.places(5), 1 << 30);
        Due.same("no other state", x.places(4), 0);
        TreeBecomes y = Due.made("a 0;g 0 0 0;", FULL_TREE);
        Due.same("all 31", y.places(0), Integer.MAX_VALUE);
        y.turn(1, 0);
        Due.same("leaves", y.places(0), Integer.MAX_VALUE - ((1 << 15) - 1));
        TreeBecomes z = Due.made("b 5;", "b");
        Due.same("node 0 alone", z.places(5), 1);
    }

    static void promise14_places_ofEachState() {
        for (int state = 0; state <= 5; state++) {
            TreeBecomes x = Due.made("a " + state + ";e " + state + " " + (state + 1) % 6 + ";", "gaea");
            Due.same("state " + state, x.places(state), 2 | 8);
            Due.same("the next one", x.places((state + 1) % 6), 4);
        }
    }

    // ---- 15: mend

    static void promise15_mend_needsATree() {
        Twins.refused(Twins.Life.NEW, "mend -1", STATE, x -> x.mend(-1));
        for (int i = 0; i <= 31; i++) {
            int node = i;
            Twins.refused(Twins.Life.NEW, "mend " + i, BAD, x -> x.mend(node));
        }
        Twins.refused(Twins.Life.NEW, "BAD ahead of STATE", BAD, x -> x.mend(-2));
        TreeBecomes x = Due.made("a 0;good 0;", "");
        Due.same("a law alone", x.mend(-1), STATE);
        Due.same("a law alone, 0", x.mend(0), BAD);
    }

    static void promise15_mend_refusesNodesThatAreNot() {
        Twins.refusedOutside("mend", -1, 30, BAD, (x, i) -> x.mend(i));
        Twins.refused(Twins.Life.USUAL, "mend 6", BAD, x -> x.mend(Twins.USUAL_NODES));
        Twins.refused(Twins.Life.USUAL, "mend 30", BAD, x -> x.mend(30));
    }

    private static void mended(String law, String tree, String due) {
        int changes = 0;
        for (int i = 0; i < tree.length(); i++) {
            changes += tree.charAt(i) == due.charAt(i) ? 0 : 1;
        }
        TreeBecomes x = Due.made(law, tree);
        Due.same(tree + " by", x.mend(-1), changes);
        for (int i = 0; i < tree.length(); i++) {
            Due.same(tree + ", node " + i, x.mend(i), due.charAt(i) - 'a');
        }
        Due.same(tree + ", behind it", x.mend(tree.length()), BAD);
        Due.holds(tree + " itself stays", Due.signsOfTree(x).equals(tree));
    }

    static void promise15_mend_byNoneOrAllSigns() {
        String full = "d 5;h 5 5 5;good 5;";
        mended(full, "d", "d");
        mended(full, "a", "d");
        mended(full, "h".repeat(15) + "d".repeat(16), "h".repeat(15) + "d".repeat(16));
        mended(full, "h".repeat(15) + "d".repeat(15) + "a", "h".repeat(15) + "d".repeat(16));
        mended(full, "g" + "h".repeat(14) + "d".repeat(16), "h".repeat(15) + "d".repeat(16));
        mended(full, FULL_TREE, "h".repeat(15) + "d".repeat(16));
        mended("a 0;f 0 0;good 0;", "e".repeat(30) + "d", "f".repeat(30) + "a");
    }

    /** Of ways with as few signs the first: by node 0, then by node 1 and so on to the last. */
    static void promise15_mend_takesTheFirstOfSeveralWays() {
        mended("b 0;c 0;d 0;good 0;", "a", "b");
        mended("d 0;c 1;b 2;good 0 1 2;", "a", "b");
        mended("a 0;b 1;g 0 0 2;h 1 1 2;good 2;", "gab", "gaa");
        mended("b 0;a 1;g 0 0 2;g 1 1 2;good 2;", "gab", "gaa");
        mended("c 0;d 1;g 0 1 2;g 1 0 2;good 2;", "gcc", "gcd");
        mended("a 0;b 1;h 0 0 2;h 1 0 2;g 1 1 2;good 2;", "gba", "gbb");
        mended("b 0;a 1;good 0 1;", "c", "a");
        mended("a 0;b 1;good 0 1;", "c", "a");
        mended("a 0;b 0;e 0 0;good 0;", "f".repeat(30) + "c", "e".repeat(30) + "a");
    }

    /** However early its signs come, a way with more of them is not taken; whichever state it is good by. */
    static void promise15_mend_takesTheFewestAheadOfTheFirst() {
        mended("a 0;b 1;e 0 2;e 1 3;good 2 3;", "fb", "eb");
        mended("b 0;a 1;e 0 2;e 1 3;good 2 3;", "fb", "eb");
        mended("a 0;b 1;e 0 2;f 1 2;good 2;", "fc", "fb");
        mended("a 0;d 1;g 0 0 2;h 1 1 3;good 2 3;", "hdc", "hdd");
    }

    static void promise15_mend_tellsNoneForEachNode() {
        String[][] hopeless = {{"good 0;", "gab"}, {"a 0;e 0 0;good 0;", "gab"}, {"a 0;g 0 0 0;", "gab"},
            {"a 0;g 0 0 1;good 2;", "gab"}, {"a 0;g 0 0 0;good 0;", "gaea"}};
        for (String[] h : hopeless) {
            TreeBecomes x = Due.made(h[0], h[1]);
            for (int i = -1; i < h[1].length(); i++) {
                Due.same(h[0] + " " + h[1] + ", " + i, x.mend(i), NONE);
            }
            Due.same("BAD ahead of NONE", x.mend(h[1].length()), BAD);
            Due.same("BAD ahead of NONE", x.mend(-2), BAD);
        }
        TreeBecomes x = Due.made("a 0;good 0;", "b");
        Due.same("a way", x.mend(-1), 1);
        x.turn(0, 0);
        Due.same("by a rule that is off none", x.mend(-1), NONE);
    }
}
