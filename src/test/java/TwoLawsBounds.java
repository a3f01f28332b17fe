/** Boundary cases of promises 21 to 23: alike, apart, both. */
final class TwoLawsBounds {
    private static final int BAD = -1, STATE = -2, FULL = -3, NONE = -9, NOT_SO_MANY = -5;
    private static final int LOW = Integer.MIN_VALUE, HIGH = Integer.MAX_VALUE;
    private static final int MOST_COUNTED = 15;

    private TwoLawsBounds() {
    }

    // ---- 21: alike

    static void promise21_alike_refusesImagesThatAreNot() {
        Twins.refusedOutside("alike", 0, 1, BAD, (x, image) -> x.alike(image));
    }

    static void promise21_alike_needsAKeptImage() {
        Twins.refused(Twins.Life.NEW, "image 0", STATE, x -> x.alike(0));
        Twins.refused(Twins.Life.NEW, "image 1", STATE, x -> x.alike(1));
        Twins.refused(Twins.Life.USUAL, "image 1", STATE, x -> x.alike(1));
        TreeBecomes x = new TreeBecomes();
        x.keep(1);
        Due.same("image 1 alone is kept", x.alike(0), STATE);
        Due.same("nothing is like nothing", x.alike(1), 1);
        x.keep(0);
        Due.same("both are", x.alike(0), 1);
    }

    static void promise21_alike_isFullAbove120Pairs() {
        Twins.refused(Twins.Life.FULL, "121 pairs", FULL, x -> x.alike(0));
        for (int image = 0; image <= 1; image++) {
            Due.same("120 pairs", PairLaws.MOST_TOLD.make(image).alike(image), 1);
            TreeBecomes told = PairLaws.MOST_TOLD.make(image);
            told.good(1, 1);
            Due.same("120 pairs, one law with a good state", told.alike(image), 0);
            Due.same("121 pairs", PairLaws.ONE_TOO_MANY.make(image).alike(image), FULL);
            Due.same("121 pairs at last", PairLaws.ONE_TOO_MANY_AT_LAST.make(image).alike(image), FULL);
            Due.same("200 pairs", PairLaws.FAR_TOO_MANY.make(image).alike(image), FULL);
        }
    }

    static void promise21_alike_tellsBadAheadOfStateAheadOfFull() {
        for (PairLaws laws : new PairLaws[] {PairLaws.ONE_TOO_MANY, PairLaws.FAR_TOO_MANY}) {
            TreeBecomes x = laws.make();
            Due.same("FULL", x.alike(0), FULL);
            Due.same("STATE", x.alike(1), STATE);
            Due.same("BAD", x.alike(2), BAD);
            Due.same("BAD", x.alike(-1), BAD);
        }
    }

    /** Pairs are counted of the rules that are on, not of what is good; they are counted anew when that changes. */
    static void promise21_alike_isFullAsLongAsThereAreSoManyPairs() {
        TreeBecomes x = PairLaws.ONE_TOO_MANY.make();
        for (int state = 0; state <= 5; state++) {
            x.good(state, 1);
            Due.same("whatever is good", x.alike(0), FULL);
        }
        Due.holds("sets are told in between", x.sets() > 1);
        Due.same("still", x.alike(0), FULL);
        int on = x.count(1);
        Due.same("kept", x.keep(1), on);
        Due.same("with itself it is told", x.alike(1), 1);
        Due.same("with the other one not", x.alike(0), FULL);
        for (int k = 0; k < 16; k++) {
            x.turn(k, 0);
        }
        Due.same("no rule is on: told; nothing is good by either", x.alike(0), 1);
        x.back(1);
        Due.same("as before", x.alike(0), FULL);
        x.keep(0);
        Due.same("the image is another one", x.alike(0), 1);
    }

    static void promise21_alike_looksAtAllTrees() {
        TreeBecomes x = Due.made(AllTreesBounds.DOUBLING + "good 5;", "");
        x.keep(0);
        x.turn(5, 0);
        Due.same("told apart by 32 signs", x.alike(0), 0);
        x.turn(5, 1);
        Due.same("the same again", x.alike(0), 1);
        TreeBecomes y = Due.made("a 0;a 1;e 0 0;e 1 1;good 0;", "");
        y.keep(0);
        y.turn(0, 0);
        y.turn(2, 0);
        y.good(0, 0);
        y.good(1, 1);
        Due.same("by other rules and states the same trees", y.alike(0), 1);
        y.good(1, 0);
        Due.same("no tree is good here", y.alike(0), 0);
        y.good(5, 1);
        y.keep(1);
        y.good(5, 0);
        Due.same("none here, none there", y.alike(1), 1);
    }

    // ---- 22: apart

    static void promise22_apart_refusesImagesThatAreNot() {
        Twins.refusedOutside("apart", 0, 1, BAD, (x, image) -> x.apart(image, -1));
        Twins.refusedOutside("apart", 0, 1, BAD, (x, image) -> x.apart(image, 30));
    }

    static void promise22_apart_refusesNumbersBelow() {
        for (int i : Twins.outside(-1, HIGH)) {
            Twins.refused("image 0, " + i, BAD, x -> x.apart(0, i));
            Twins.refused("image 1, " + i, BAD, x -> x.apart(1, i));
        }
        Twins.refused("both wrong", BAD, x -> x.apart(2, LOW));
    }

    static void promise22_apart_needsAKeptImage() {
        for (int i : new int[] {-1, 0, 30, 31, HIGH}) {
            Twins.refused(Twins.Life.NEW, "image 0, " + i, STATE, x -> x.apart(0, i));
            Twins.refused(Twins.Life.NEW, "image 1, " + i, STATE, x -> x.apart(1, i));
            Twins.refused(Twins.Life.USUAL, "image 1, " + i, STATE, x -> x.apart(1, i));
        }
        TreeBecomes x = new TreeBecomes();
        x.keep(0);
        Due.same("kept", x.apart(0, -1), NONE);
        Due.same("the other one is not", x.apart(1, -1), STATE);
    }

    static void promise22_apart_isFullAbove120Pairs() {
        for (int i : new int[] {-1, 0, 30, 31, HIGH}) {
            Twins.refused(Twins.Life.FULL, "121 pairs, " + i, FULL, x -> x.apart(0, i));
            Due.same("121 pairs at last, " + i, PairLaws.ONE_TOO_MANY_AT_LAST.make(1).apart(1, i), FULL);
            Due.same("200 pairs, " + i, PairLaws.FAR_TOO_MANY.make(1).apart(1, i), FULL);
        }
        for (int image = 0; image <= 1; image++) {
            TreeBecomes told = PairLaws.MOST_TOLD.make(image);
            Due.same("120 pairs", told.apart(image, -1), NONE);
            told.good(1, 1);
            Due.same("120 pairs, one law with a good state", told.apart(image, -1), 1);
            Due.same("d", told.apart(image, 0), 3);
            Due.same("no more", told.apart(image, 1), NOT_SO_MANY);
        }
    }

    static void promise22_apart_tellsBadAheadOfStateAheadOfFull() {
        TreeBecomes x = PairLaws.ONE_TOO_MANY.make();
        Due.same("FULL", x.apart(0, -1), FULL);
        Due.same("BAD ahead of FULL", x.apart(0, -2), BAD);
        Due.same("STATE", x.apart(1, -1), STATE);
        Due.same("BAD ahead of STATE", x.apart(1, -2), BAD);
        Due.same("BAD", x.apart(2, -1), BAD);
        Due.same("BAD", x.apart(-1, 0), BAD);
    }

    static void promise22_apart_has31SignsAtMost() {
        for (int image = 0; image <= 1; image++) {
            TreeBecomes x = Due.made(AllTreesBounds.DOUBLING, "");
            x.keep(image);
            x.good(4, 1);
            Due.same("31 signs, good here", x.apart(image, -1), 31);
            Due.same("the first", x.apart(image, 0), 6);
            Due.same("the last", x.apart(image, 30), 0);
            Due.same("none behind it", x.apart(image, 31), NOT_SO_MANY);
            x.keep(image);
            x.good(4, 0);
            Due.same("31 signs, good there", x.apart(image, -1), 31);
            Due.same("it is a tree", Due.tree(x, Due.apart(x, image)), 31);
            Due.same("node 0 comes to", x.node(0, 3), 1 << 4);
            x.keep(image);
            x.good(5, 1);
            Due.same("32 signs, good here", x.apart(image, -1), NONE);
            Due.same("and yet", x.alike(image), 0);
            x.keep(image);
            x.good(5, 0);
            Due.same("32 signs, good there", x.apart(image, -1), NONE);
            Due.same("and yet", x.alike(image), 0);
        }
    }

    static void promise22_apart_tellsEachSignAndNoMore() {
        TreeBecomes x = Due.made("b 0;f 0 1;", "");
        x.keep(0);
        x.good(1, 1);
        int[] due = {2, 5, 1, NOT_SO_MANY, NOT_SO_MANY};
        for (int i = -1; i <= 3; i++) {
            Due.same("apart " + i, x.apart(0, i), due[i + 1]);
        }
        for (int i : new int[] {30, 31, 32, 64, 256, 65536, HIGH - 1, HIGH}) {
            Due.same("apart " + i, x.apart(0, i), NOT_SO_MANY);
        }
        x.keep(0);
        for (int i : new int[] {-1, 0, 1, 30, 31, HIGH}) {
            Due.same("alike: " + i, x.apart(0, i), NONE);
        }
        Due.same("BAD ahead of NONE", x.apart(0, -2), BAD);
    }

    /** Good by just one: a tree that is good by both does not tell them apart, however small. */
    static void promise22_apart_isGoodByJustOne() {
        TreeBecomes x = Due.made("a 0;b 1;c 2;e 0 3;good 0 1 3;", "");
        x.keep(0);
        x.turn(3, 0);
        Due.same("ea", x.apart(0, -1), 2);
        x.good(2, 1);
        Due.same("c", x.apart(0, -1), 1);
        Due.same("good here alone", x.apart(0, 0), 2);
        x.good(1, 0);
        Due.same("b ahead of c", x.apart(0, 0), 1);
        x.turn(0, 0);
        Due.same("a ahead of both", x.apart(0, 0), 0);
    }

    /** Beside a law by which nothing is good, on either side. */
    static void promise22_apart_isTheFirstOfSeveral() {
        for (String[] first : AllTreesBounds.FIRSTS) {
            TreeBecomes x = Due.made(first[0], "");
            int goods = x.count(2);
            x.keep(0);
            setGoods(x, 0);
            x.keep(1);
            Due.holds(first[0] + " there: " + Due.apart(x, 0), Due.apart(x, 0).equals(first[1]));
            setGoods(x, goods);
            Due.holds(first[0] + " here: " + Due.apart(x, 1), Due.apart(x, 1).equals(first[1]));
        }
    }

    private static void setGoods(TreeBecomes x, int bits) {
        for (int state = 0; state <= 5; state++) {
            x.good(state, bits >> state & 1);
        }
    }

    // ---- 23: both

    static void promise23_both_refusesImagesThatAreNot() {
        Twins.refusedOutside("both", 0, 1, BAD, (x, image) -> x.both(image, 1));
        Twins.refusedOutside("both", 0, 1, BAD, (x, image) -> x.both(image, MOST_COUNTED));
    }

    static void promise23_both_refusesOtherNumbersOfSigns() {
        Twins.refusedOutside("image 0", 1, MOST_COUNTED, BAD, (x, n) -> x.both(0, n));
        Twins.refusedOutside("image 1", 1, MOST_COUNTED, BAD, (x, n) -> x.both(1, n));
        Twins.refused("both wrong", BAD, x -> x.both(HIGH, LOW));
    }

    static void promise23_both_needsAKeptImage() {
        for (int n : new int[] {1, MOST_COUNTED}) {
            Twins.refused(Twins.Life.NEW, "image 0, " + n, STATE, x -> x.both(0, n));
            Twins.refused(Twins.Life.NEW, "image 1, " + n, STATE, x -> x.both(1, n));
            Twins.refused(Twins.Life.USUAL, "image 1, " + n, STATE, x -> x.both(1, n));
        }
    }

    static void promise23_both_isFullAbove120Pairs() {
        for (int n = 1; n <= MOST_COUNTED; n++) {
            int signs = n;
            Twins.refused(Twins.Life.FULL, "121 pairs, " + n, FULL, x -> x.both(0, signs));
            Due.same("121 pairs at last, " + n, PairLaws.ONE_TOO_MANY_AT_LAST.make(1).both(1, n), FULL);
            Due.same("200 pairs, " + n, PairLaws.FAR_TOO_MANY.make(1).both(1, n), FULL);
        }
        TreeBecomes told = PairLaws.MOST_TOLD.make();
        Due.same("120 pairs", told.both(0, MOST_COUNTED), 0);
        for (int state = 0; state <= 5; state++) {
            told.good(state, 1);
        }
        int then = PairLaws.MOST_TOLD.then;
        PairLaws.turnTo(told, PairLaws.MOST_TOLD.kept);
        told.keep(0);
        PairLaws.turnTo(told, then);
        Due.same("120 pairs, each state good: d", told.both(0, 1), 1);
    }

    static void promise23_both_tellsBadAheadOfStateAheadOfFull() {
        TreeBecomes x = PairLaws.ONE_TOO_MANY.make();
        Due.same("FULL", x.both(0, 1), FULL);
        Due.same("BAD ahead of FULL", x.both(0, 0), BAD);
        Due.same("BAD ahead of FULL", x.both(0, 16), BAD);
        Due.same("STATE", x.both(1, 15), STATE);
        Due.same("BAD ahead of STATE", x.both(1, 0), BAD);
        Due.same("BAD ahead of STATE", x.both(1, 16), BAD);
        Due.same("BAD", x.both(2, 1), BAD);
        Due.same("BAD", x.both(-1, 15), BAD);
    }

    static void promise23_both_countsUpTo15Signs() {
        for (int image = 0; image <= 1; image++) {
            TreeBecomes x = Due.made(AllTreesBounds.WHOLE + "good 0;", "");
            x.keep(image);
            for (int n = 1; n <= MOST_COUNTED; n++) {
                Due.same("with itself " + n, x.both(image, n), x.many(n));
            }
            Due.holds("more than an int holds", x.both(image, MOST_COUNTED) > HIGH);
            x.turn(7, 0);
            for (int n = 1; n <= MOST_COUNTED; n++) {
                Due.same("with one that has more " + n, x.both(image, n), x.many(n));
            }
            x.good(0, 0);
            Due.same("nothing good here", x.both(image, 1), 0);
            x.keep(image);
            x.good(0, 1);
            Due.same("nothing good there", x.both(image, 1), 0);
            Due.same("nothing good there", x.both(image, MOST_COUNTED), 0);
        }
    }

    /** A tree that is good by each law, though by other states. */
    static void promise23_both_isOfTheSameTree() {
        TreeBecomes x = Due.made("a 0;b 1;b 2;c 2;good 0 1;", "");
        x.keep(0);
        x.good(0, 0);
        x.good(1, 0);
        x.good(2, 1);
        Due.same("b alone", x.both(0, 1), 1);
        Due.same("here b and c", x.many(1), 2);
        x.turn(2, 0);
        Due.same("none", x.both(0, 1), 0);
    }
}
