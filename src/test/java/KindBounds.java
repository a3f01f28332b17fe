/** Boundary cases of promises 24 to 28: mark, keep, back, count, trace. */
final class KindBounds {
    private static final int BAD = -1, STATE = -2, NO = -1000000;
    private static final int LOW = Integer.MIN_VALUE, HIGH = Integer.MAX_VALUE;
    private static final int KINDS = 6;
    private static final long[] TRACES = {1, 11, 101, 1011, 10101, 100001};
    private static final String FULL_TREE = "h".repeat(15) + "d".repeat(16);

    private KindBounds() {
    }

    // ---- 24: mark

    static void promise24_mark_refusesKindsThatAreNot() {
        Twins.refusedOutside("mark of node 0", 0, 5, NO, (x, kind) -> x.mark(kind, 0));
        Twins.refusedOutside("mark of node 30", 0, 5, NO, (x, kind) -> x.mark(kind, 30));
    }

    static void promise24_mark_refusesNodesThatAreNot() {
        for (int kind = 0; kind < KINDS; kind++) {
            int its = kind;
            Twins.refused(Twins.Life.NEW, "kind " + kind + " of node 0", NO, x -> x.mark(its, 0));
            Twins.refused(Twins.Life.USUAL, "kind " + kind + " of node 6", NO, x -> x.mark(its, Twins.USUAL_NODES));
            Twins.refused(Twins.Life.USUAL, "kind " + kind + " of node 30", NO, x -> x.mark(its, 30));
            Twins.refusedOutside("kind " + kind, 0, 30, NO, (x, i) -> x.mark(its, i));
        }
        Twins.refused("both wrong", NO, x -> x.mark(LOW, HIGH));
    }

    private static void marks(String law, String tree, int i, int... due) {
        TreeBecomes x = Due.made(law, tree);
        for (int kind = 0; kind < KINDS; kind++) {
            Due.same(tree + ", kind " + kind + " of node " + i, x.mark(kind, i), due[kind]);
        }
    }

    /** A node is marked as if of each kind, whatever its sign. */
    static void promise24_mark_ofTheLeastAndTheGreatestPart() {
        marks("", "a", 0, 1, 2, 1, 2, 1, 1);
        marks("", "d", 0, 1, 2, 4, 2, 4, 1);
        marks("", "fa", 0, 2, 4, 7, 5, 7, 2);
        marks("", "fa", 1, 1, 2, 1, 2, 1, 2);
        marks("", FULL_TREE, 0, 31, 62, 38, 64, 38, 31);
        marks("", FULL_TREE, 30, 1, 2, 4, 2, 4, 31);
        marks("d 0;d 5;", FULL_TREE, 30, 1, 2, 4, 2, 2, 31);
    }

    static void promise24_mark_mayBeBelow0() {
        String[] laws = {"", "a 0;", "a 0;a 1;", "a 0;a 1;a 2;a 3;a 4;", "a 0;a 1;a 2;a 3;a 4;a 5;"};
        int[] due = {1, 0, -1, -4, -5};
        for (int k = 0; k < laws.length; k++) {
            TreeBecomes x = Due.made(laws[k], "a");
            Due.same("bud by " + laws[k], x.mark(4, 0), due[k]);
            Due.same("none is another number", x.mark(4, 1), NO);
        }
        TreeBecomes x = Due.made("a 0;a 1;", "a");
        x.turn(1, 0);
        Due.same("states by rules that are on", x.mark(4, 0), 0);
    }

    // ---- 25: keep

    static void promise25_keep_refusesImagesThatAreNot() {
        Twins.refusedOutside("keep", 0, 1, BAD, (x, image) -> x.keep(image));
    }

    static void promise25_keep_tellsHowManyRulesAreOn() {
        Due.same("none", new TreeBecomes().keep(0), 0);
        TreeBecomes x = Due.made("a 0;".repeat(16), "");
        for (int k = 0; k < 16; k++) {
            Due.same("on", x.keep(k % 2), 16 - k);
            x.turn(k, 0);
        }
        Due.same("all off", x.keep(1), 0);
    }

    /** An image kept again is the newer one; the other image is not touched. */
    static void promise25_keep_takesTheEarlierOnesPlace() {
        TreeBecomes x = Due.made("a 0;b 1;good 0;", "a");
        x.keep(0);
        x.keep(1);
        x.turn(0, 0);
        x.good(5, 1);
        Due.tree(x, FULL_TREE);
        x.keep(1);
        Due.same("image 0", x.back(0), 2);
        Due.same("its good states", x.count(2), 1);
        Due.same("its tree", x.count(3), 1);
        Due.same("image 1", x.back(1), 1);
        Due.same("its rules", x.rule(0, 4), 0);
        Due.same("its good states", x.count(2), 33);
        Due.holds("its tree", Due.signsOfTree(x).equals(FULL_TREE));
        Due.same("node 30 is over", x.node(30, 2), 0);
    }

    static void promise25_keep_changesNothingElse() {
        TreeBecomes x = Twins.make(Twins.Life.USUAL);
        int[] before = new int[5];
        for (int what = 0; what < 5; what++) {
            before[what] = x.count(what);
        }
        x.keep(1);
        for (int what = 0; what < 5; what++) {
            Due.same("count " + what, x.count(what), before[what]);
        }
        Due.same("trace", x.trace(), 10101);
        Due.same("back at once", x.back(1), 7);
        Due.same("image 0 is there", x.back(0), 8);
    }

    // ---- 26: back

    static void promise26_back_refusesImagesThatAreNot() {
        Twins.refusedOutside("back", 0, 1, BAD, (x, image) -> x.back(image));
    }

    static void promise26_back_needsAKeptImage() {
        Twins.refused(Twins.Life.NEW, "image 0", STATE, x -> x.back(0));
        Twins.refused(Twins.Life.NEW, "image 1", STATE, x -> x.back(1));
        Twins.refused(Twins.Life.USUAL, "image 1", STATE, x -> x.back(1));
        TreeBecomes x = new TreeBecomes();
        x.keep(1);
        Due.same("image 1 alone is kept", x.back(0), STATE);
        Due.same("it is", x.back(1), 0);
        x.law();
        Due.same("gone by a law read anew", x.back(1), STATE);
    }

    static void promise26_back_bringsRulesGoodStatesAndTree() {
        TreeBecomes x = Due.made("a 0;".repeat(16), "");
        x.keep(0);
        for (int k = 0; k < 16; k++) {
            x.turn(k, 0);
        }
        for (int state = 0; state <= 5; state++) {
            x.good(state, 1);
        }
        Due.tree(x, FULL_TREE);
        x.keep(1);
        Due.same("all on", x.back(0), 16);
        Due.same("all on", x.count(1), 16);
        Due.same("nothing good", x.count(2), 0);
        Due.same("no tree", x.count(3), 0);
        Due.same("no tree", x.isGood(), STATE);
        Due.same("no node", x.node(0, 0), BAD);
        Due.same("all off", x.back(1), 0);
        Due.same("all off", x.count(1), 0);
        Due.same("all good", x.count(2), 63);
        Due.same("31 nodes", x.count(3), 31);
        Due.same("node 30", x.node(30, 0), 3);
        Due.same("again", x.back(1), 0);
    }

    /** Of the text, the rules themselves, the trace and the images nothing is brought back. */
    static void promise26_back_bringsNothingElse() {
        TreeBecomes x = Due.made("a 0;b 1;", "a");
        x.keep(0);
        x.keep(1);
        x.mark(0, 0);
        Due.type(x, "b");
        x.turn(0, 0);
        x.keep(1);
        Due.same("back", x.back(0), 2);
        Due.same("trace", x.trace(), 1);
        Due.same("text", x.count(4), 1);
        Due.same("rules", x.count(0), 2);
        Due.same("image 1 is as it was kept last", x.alike(1), 1);
        x.good(0, 1);
        Due.same("and its rule is off", x.both(1, 1), 0);
        Due.same("image 1", x.back(1), 1);
        Due.same("the text is read", x.tree(), 1);
        Due.same("b", x.node(0, 0), 1);
    }

    /** What is changed afterwards is not changed in the image. */
    static void promise26_back_standsByItself() {
        TreeBecomes x = Due.made("a 0;b 1;good 0;", "gab");
        x.keep(0);
        for (int k = 0; k < 3; k++) {
            x.sign(0, 7);
            x.sign(1, 3);
            x.exchange(0);
            x.turn(1, 0);
            x.good(0, 0);
            Due.same("back", x.back(0), 2);
            Due.holds("tree", Due.signsOfTree(x).equals("gab"));
            Due.same("good", x.count(2), 1);
        }
        Due.same("a fault of a law", Due.law(x, "a 6;"), -12);
        Due.same("does not take it away", x.back(0), 2);
        Due.same("a tree", Due.tree(x, "d"), 1);
        Due.same("does not take it away", x.back(0), 2);
        Due.same("nodes", x.count(3), 3);
    }

    // ---- 27: count

    static void promise27_count_refusesOtherQuestions() {
        Twins.refusedOutside("count", 0, 4, BAD, (x, what) -> x.count(what));
    }

    static void promise27_count_tellsTheLeastAndTheGreatest() {
        TreeBecomes x = new TreeBecomes();
        for (int what = 0; what <= 4; what++) {
            Due.same("nothing, " + what, x.count(what), 0);
        }
        Due.law(x, "a 0;".repeat(16) + "good 0 1 2 3 4 5;");
        Due.tree(x, FULL_TREE);
        Due.type(x, " ".repeat(300));
        int[] due = {16, 16, 63, 31, 300};
        for (int what = 0; what <= 4; what++) {
            Due.same("full, " + what, x.count(what), due[what]);
        }
        for (int k = 0; k < 16; k++) {
            x.turn(k, 0);
        }
        Due.same("rules that are off are rules", x.count(0), 16);
        Due.same("none is on", x.count(1), 0);
    }

    static void promise27_count_changesNothing() {
        for (int what = 0; what <= 4; what++) {
            for (Twins.Life life : Twins.Life.values()) {
                TreeBecomes x = Twins.make(life);
                x.count(what);
                Due.holds("count " + what, Twins.look(x).equals(Twins.unasked(life)));
            }
        }
    }

    // ---- 28: trace

    static void promise28_trace_addsWhatMarkAsks() {
        for (int kind = 0; kind < KINDS; kind++) {
            TreeBecomes x = Due.made("", "d");
            Due.same("nothing yet", x.trace(), 0);
            x.mark(kind, 0);
            Due.same("kind " + kind, x.trace(), TRACES[kind]);
            x.mark(kind, 0);
            Due.same("kind " + kind + " twice", x.trace(), 2 * TRACES[kind]);
        }
    }

    static void promise28_trace_isNotChangedByARefusal() {
        TreeBecomes x = Due.made("", "d");
        x.mark(5, 0);
        x.mark(6, 0);
        x.mark(-1, 0);
        for (int kind = 0; kind < KINDS; kind++) {
            Due.same("no node 1", x.mark(kind, 1), NO);
            Due.same("no node -1", x.mark(kind, -1), NO);
        }
        Due.same("trace", x.trace(), 100001);
    }

    /** No call but mark comes to it, and none takes it away. */
    static void promise28_trace_staysByAllOtherCalls() {
        TreeBecomes x = Due.made("a 0;good 0;", "d");
        x.keep(0);
        x.mark(3, 0);
        for (int call = 0; call < Calls.ALL; call++) {
            long asked = call == 22 ? 0 : Calls.ask(x, call);
            Due.same("behind call " + call + ", which answered " + asked, x.trace(), 1011);
        }
        Due.same("law", Due.law(x, ""), 0);
        Due.same("tree", Due.tree(x, "a"), 1);
        Due.same("trace", x.trace(), 1011);
    }

    /** As great as 512 calls can make it. */
    static void promise28_trace_ofALongLife() {
        TreeBecomes x = new TreeBecomes();
        int calls = Due.type(x, "a") + 2;
        x.tree();
        for (int k = calls; k < 512; k++) {
            Due.same("root", x.mark(5, 0), 1);
        }
        Due.same("trace", x.trace(), (512L - calls) * 100001);
    }
}
