/** Boundary cases of promises 6 to 11: rule, turn, good, node, sign, exchange. */
final class PartBounds {
    private static final int BAD = -1, STATE = -2, NONE = -9;
    private static final int LOW = Integer.MIN_VALUE, HIGH = Integer.MAX_VALUE;
    private static final String CHAIN = "e".repeat(30) + "a";

    private PartBounds() {
    }

    // ---- 6: rule

    static void promise06_rule_isToldFromTheFirstToTheLast() {
        TreeBecomes x = PairLaws.ONE_TOO_MANY.make();
        int[][] due = {{6, 1, 4, 0, 1}, {7, 1, 4, 2, 1}, {3, NONE, NONE, 4, 1}, {5, 1, NONE, 4, 1}};
        int[] rules = {0, 1, 11, 15};
        for (int k = 0; k < rules.length; k++) {
            for (int what = 0; what <= 4; what++) {
                Due.same("rule " + rules[k] + ", " + what, x.rule(rules[k], what), due[k][what]);
            }
        }
        TreeBecomes one = Due.made("d 5;", "");
        Due.same("the only rule", one.rule(0, 3), 5);
        Due.same("none behind it", one.rule(1, 3), BAD);
    }

    static void promise06_rule_tellsNoneForAnArmThatIsNot() {
        TreeBecomes x = Due.made("a 0;d 5;e 0 5;f 5 0;g 0 5 1;h 5 0 4;", "");
        int[][] due = {{0, NONE, NONE, 0}, {3, NONE, NONE, 5}, {4, 0, NONE, 5}, {5, 5, NONE, 0}, {6, 0, 5, 1},
            {7, 5, 0, 4}};
        for (int k = 0; k < due.length; k++) {
            for (int what = 0; what <= 3; what++) {
                Due.same("rule " + k + ", " + what, x.rule(k, what), due[k][what]);
            }
        }
    }

    static void promise06_rule_refusesRulesThatAreNot() {
        for (int what = 0; what <= 4; what++) {
            int its = what;
            Twins.refused(Twins.Life.NEW, "rule 0", BAD, x -> x.rule(0, its));
            Twins.refused(Twins.Life.USUAL, "rule 8", BAD, x -> x.rule(Twins.USUAL_RULES, its));
            Twins.refused("rule -1", BAD, x -> x.rule(-1, its));
            Twins.refused("rule 16", BAD, x -> x.rule(16, its));
        }
        Twins.refusedOutside("rule", 0, 15, BAD, (x, k) -> x.rule(k, 4));
        Twins.refused(Twins.Life.USUAL, "rule 15", BAD, x -> x.rule(15, 0));
    }

    static void promise06_rule_refusesOtherQuestions() {
        Twins.refusedOutside("rule 0", 0, 4, BAD, (x, what) -> x.rule(0, what));
        Twins.refusedOutside("rule 15", 0, 4, BAD, (x, what) -> x.rule(15, what));
        Twins.refused("both wrong", BAD, x -> x.rule(LOW, HIGH));
    }

    /** What a longer law, or one that could not be read, had there is not told. */
    static void promise06_rule_forgetsAnEarlierLaw() {
        TreeBecomes x = Due.made("a 0;b 1;c 2;", "");
        Due.same("a fault", Due.law(x, "a 0;b 1;c 2;d 3;d 9;"), -10 - 18);
        Due.same("rule 3 was never read", x.rule(3, 0), BAD);
        Due.same("rule 2 is as it was", x.rule(2, 3), 2);
        Due.same("a shorter law", Due.law(x, "d 4;"), 1);
        Due.same("rule 0", x.rule(0, 0), 3);
        Due.same("rule 1", x.rule(1, 0), BAD);
    }

    // ---- 7: turn

    static void promise07_turn_tellsWhatTheRuleWas() {
        TreeBecomes x = Due.made("a 0;".repeat(16), "a");
        for (int k = 0; k < 16; k++) {
            Due.same("on is on", x.turn(k, 1), 1);
            Due.same("off", x.turn(k, 0), 1);
            Due.same("it is", x.rule(k, 4), 0);
            Due.same("off again", x.turn(k, 0), 0);
            Due.same("rules on", x.count(1), 15 - k);
            Due.same("node 0", x.node(0, 3), k < 15 ? 1 : 0);
        }
        for (int k = 0; k < 16; k++) {
            Due.same("on", x.turn(k, 1), 0);
            Due.same("it is", x.rule(k, 4), 1);
            Due.same("rules on", x.count(1), k + 1);
        }
    }

    static void promise07_turn_leavesTheRuleThere() {
        TreeBecomes x = Due.made("g 1 2 3;a 4;", "");
        x.turn(0, 0);
        int[] due = {6, 1, 2, 3, 0};
        for (int what = 0; what <= 4; what++) {
            Due.same("rule 0, " + what, x.rule(0, what), due[what]);
        }
        Due.same("rules", x.count(0), 2);
        Due.same("those that are on", x.count(1), 1);
    }

    static void promise07_turn_refusesRulesThatAreNot() {
        for (int on = 0; on <= 1; on++) {
            int to = on;
            Twins.refused(Twins.Life.NEW, "turn 0", BAD, x -> x.turn(0, to));
            Twins.refused(Twins.Life.USUAL, "turn 8", BAD, x -> x.turn(Twins.USUAL_RULES, to));
            Twins.refused(Twins.Life.USUAL, "turn 15", BAD, x -> x.turn(15, to));
            Twins.refusedOutside("turn to " + to, 0, 15, BAD, (x, k) -> x.turn(k, to));
        }
    }

    static void promise07_turn_refusesOtherThanOnAndOff() {
        Twins.refusedOutside("turn 0", 0, 1, BAD, (x, on) -> x.turn(0, on));
        Twins.refusedOutside("turn 7", 0, 1, BAD, (x, on) -> x.turn(7, on));
        Twins.refusedOutside("turn 15", 0, 1, BAD, (x, on) -> x.turn(15, on));
        Twins.refused("both wrong", BAD, x -> x.turn(16, 2));
    }

    // ---- 8: good

    static void promise08_good_tellsWhatTheStateWas() {
        TreeBecomes x = new TreeBecomes();
        for (int state = 0; state <= 5; state++) {
            Due.same("not is not", x.good(state, 0), 0);
            Due.same("good", x.good(state, 1), 0);
            Due.same("good again", x.good(state, 1), 1);
            Due.same("good states", x.count(2), (2 << state) - 1);
        }
        for (int state = 0; state <= 5; state++) {
            Due.same("no more", x.good(state, 0), 1);
            Due.same("good states", x.count(2), 63 & -(2 << state));
        }
    }

    static void promise08_good_refusesStatesThatAreNot() {
        Twins.refusedOutside("good", 0, 5, BAD, (x, state) -> x.good(state, 1));
        Twins.refusedOutside("not good", 0, 5, BAD, (x, state) -> x.good(state, 0));
    }

    static void promise08_good_refusesOtherThanGoodAndNot() {
        for (int state = 0; state <= 5; state++) {
            int its = state;
            Twins.refusedOutside("good " + state, 0, 1, BAD, (x, is) -> x.good(its, is));
        }
        Twins.refused("both wrong", BAD, x -> x.good(6, -1));
    }

    /** A state need not be one of a rule's. */
    static void promise08_good_takesStatesOfNoRule() {
        TreeBecomes x = Due.made("a 0;", "a");
        Due.same("state 5", x.good(5, 1), 0);
        Due.same("count", x.count(2), 32);
        Due.same("the tree is not good", x.isGood(), 0);
        Due.same("nothing is useful", x.useful(), 0);
    }

    // ---- 9: node

    static void promise09_node_isToldFromTheFirstToTheLast() {
        TreeBecomes x = Due.made("a 0;e 0 1;e 1 2;e 2 0;", CHAIN);
        for (int i = 0; i <= 30; i++) {
            Due.same("sign of " + i, x.node(i, 0), i < 30 ? 4 : 0);
            Due.same("part of " + i, x.node(i, 1), 31 - i);
            Due.same("over " + i, x.node(i, 2), i == 0 ? NONE : i - 1);
            Due.same("states of " + i, x.node(i, 3), 1 << (30 - i) % 3);
        }
        TreeBecomes one = Due.made("a 0;", "d");
        int[] due = {3, 1, NONE, 0};
        for (int what = 0; what <= 3; what++) {
            Due.same("the only node, " + what, one.node(0, what), due[what]);
        }
        Due.same("none behind it", one.node(1, 0), BAD);
    }

    static void promise09_node_comesToNoneOrAllStates() {
        TreeBecomes x = Due.made("a 0;a 1;a 2;a 3;a 4;a 5;e 5 0;g 0 5 5;", "geaa");
        Due.same("all six", x.node(3, 3), 63);
        Due.same("one", x.node(1, 3), 1);
        Due.same("by two arms", x.node(0, 3), 32);
        x.sign(3, 1);
        Due.same("no state", x.node(3, 3), 0);
        Due.same("so none above", x.node(0, 3), 0);
        x.sign(3, 0);
        x.turn(7, 0);
        Due.same("by a rule that is off none", x.node(0, 3), 0);
    }

    static void promise09_node_refusesNodesThatAreNot() {
        for (int what = 0; what <= 3; what++) {
            int its = what;
            Twins.refused(Twins.Life.NEW, "node 0", BAD, x -> x.node(0, its));
            Twins.refused(Twins.Life.USUAL, "node 6", BAD, x -> x.node(Twins.USUAL_NODES, its));
            Twins.refused(Twins.Life.USUAL, "node 30", BAD, x -> x.node(30, its));
            Twins.refusedOutside("node, " + what, 0, 30, BAD, (x, i) -> x.node(i, its));
        }
    }

    static void promise09_node_refusesOtherQuestions() {
        Twins.refusedOutside("node 0", 0, 3, BAD, (x, what) -> x.node(0, what));
        Twins.refusedOutside("node 30", 0, 3, BAD, (x, what) -> x.node(30, what));
        Twins.refused("both wrong", BAD, x -> x.node(-1, 4));
    }

    // ---- 10: sign

    /** Each node takes just the signs that have as many arms. */
    static void promise10_sign_hasAsManyArms() {
        String[] trees = {"a", "b", "c", "d", "ea", "fa", "gaa", "haa"};
        int[][] taken = {{0, 3}, {0, 3}, {0, 3}, {0, 3}, {4, 5}, {4, 5}, {6, 7}, {6, 7}};
        for (int t = 0; t < trees.length; t++) {
            for (int its = -2; its <= 9; its++) {
                TreeBecomes x = Due.made("a 0;", trees[t]);
                boolean fits = its >= taken[t][0] && its <= taken[t][1];
                Due.same(trees[t] + " with " + its, x.sign(0, its), fits ? t : BAD);
                Due.same("its sign then", x.node(0, 0), fits ? its : t);
                Due.same("nodes", x.count(3), trees[t].length());
            }
        }
    }

    static void promise10_sign_refusesNodesThatAreNot() {
        for (int its = 0; its <= 7; its++) {
            int to = its;
            Twins.refused(Twins.Life.NEW, "node 0", BAD, x -> x.sign(0, to));
            Twins.refused(Twins.Life.USUAL, "node 6", BAD, x -> x.sign(Twins.USUAL_NODES, to));
            Twins.refused("node 31", BAD, x -> x.sign(31, to));
            Twins.refused("node -1", BAD, x -> x.sign(-1, to));
        }
        Twins.refusedOutside("sign", 0, 30, BAD, (x, i) -> x.sign(i, 0));
    }

    static void promise10_sign_refusesSignsThatAreNot() {
        for (int i : new int[] {0, 1, 3, 4, 5, 30}) {
            Twins.refusedOutside("sign of " + i, 0, 7, BAD, (x, its) -> x.sign(i, its));
        }
        Twins.refused("both wrong", BAD, x -> x.sign(LOW, HIGH));
    }

    /** In a tree of g over h over a and b, and e over a. */
    static void promise10_sign_refusesOtherNumbersOfArms() {
        int[] least = {6, 6, 0, 0, 4, 0};
        int[] most = {7, 7, 3, 3, 5, 3};
        for (int i = 0; i < least.length; i++) {
            for (int its = 0; its <= 7; its++) {
                if (its < least[i] || its > most[i]) {
                    int node = i;
                    int to = its;
                    Twins.refused(Twins.Life.USUAL, "node " + i + " to " + its, BAD, x -> x.sign(node, to));
                }
            }
        }
    }

    static void promise10_sign_changesTheLastNode() {
        TreeBecomes x = Due.made("a 0;e 0 0;b 1;e 1 1;f 1 5;good 5;", CHAIN);
        Due.same("node 30", x.sign(30, 1), 0);
        Due.same("node 0", x.sign(0, 5), 4);
        Due.same("good", x.isGood(), 1);
        Due.same("node 30 again", x.sign(30, 3), 1);
        Due.same("states", x.node(29, 3), 0);
        Due.same("part", x.node(0, 1), 31);
    }

    /** The document leaves open whether its own sign is "another one": it is answered, and nothing changes. */
    static void promise10_sign_takesTheSameAgain() {
        TreeBecomes x = Twins.make(Twins.Life.USUAL);
        int[] own = {6, 7, 0, 1, 4, 0};
        for (int i = 0; i < own.length; i++) {
            Due.same("node " + i, x.sign(i, own[i]), own[i]);
        }
        Due.holds("nothing changes", Twins.look(x).equals(Twins.unasked(Twins.Life.USUAL)));
    }

    // ---- 11: exchange

    private static void exchanged(String tree, int i, String due) {
        TreeBecomes x = Due.made("a 0;", tree);
        TreeBecomes y = Due.made("a 0;", due);
        Due.same(tree + " at " + i, x.exchange(i), 1);
        Due.holds(tree + " becomes " + due, Due.signsOfTree(x).equals(due));
        for (int k = 0; k < tree.length(); k++) {
            for (int what = 1; what <= 3; what++) {
                Due.same(due + " node " + k + ", " + what, x.node(k, what), y.node(k, what));
            }
        }
        Due.same("and back", x.exchange(i), 1);
        Due.holds(due + " becomes " + tree, Due.signsOfTree(x).equals(tree));
    }

    static void promise11_exchange_takesArmsOfAnySize() {
        exchanged("gab", 0, "gba");
        exchanged("gaa", 0, "gaa");
        exchanged("ga" + "f".repeat(28) + "b", 0, "g" + "f".repeat(28) + "ba");
        String one = "ga".repeat(7) + "b";
        String other = "hc".repeat(7) + "d";
        exchanged("g" + one + other, 0, "g" + other + one);
        exchanged("e".repeat(28) + "hab", 28, "e".repeat(28) + "hba");
        exchanged("gghabcd", 1, "ggchabd");
        exchanged("gghabcd", 2, "gghbacd");
        exchanged("gaghbcd", 2, "gagdhbc");
    }

    static void promise11_exchange_refusesNodesThatAreNot() {
        Twins.refused(Twins.Life.NEW, "node 0", BAD, x -> x.exchange(0));
        Twins.refused(Twins.Life.USUAL, "node 6", BAD, x -> x.exchange(Twins.USUAL_NODES));
        Twins.refused(Twins.Life.USUAL, "node 30", BAD, x -> x.exchange(30));
        Twins.refusedOutside("exchange", 0, 30, BAD, (x, i) -> x.exchange(i));
    }

    static void promise11_exchange_refusesNodesWithoutTwoArms() {
        for (int i : new int[] {2, 3, 4, 5}) {
            Twins.refused(Twins.Life.USUAL, "node " + i, STATE, x -> x.exchange(i));
        }
        Twins.refused(Twins.Life.FULL, "node 30", STATE, x -> x.exchange(30));
        Twins.refused(Twins.Life.FULL, "node 16", STATE, x -> x.exchange(16));
        String[] trees = {"a", "d", "ea", "fd"};
        for (String tree : trees) {
            TreeBecomes x = Due.made("a 0;", tree);
            for (int i = 0; i < tree.length(); i++) {
                Due.same(tree + " at " + i, x.exchange(i), STATE);
            }
            Due.same(tree + " behind it", x.exchange(tree.length()), BAD);
            Due.holds(tree + " stays", Due.signsOfTree(x).equals(tree));
        }
    }
}
