/** Boundary cases of promises 16 to 20: sets, classes, useful, least, many. */
final class AllTreesBounds {
    private static final int BAD = -1, NONE = -9, NOT_SO_MANY = -5;
    private static final int HIGH = Integer.MAX_VALUE;
    private static final int MOST_COUNTED = 15;
    /** Each tree comes to state 0. */
    static final String WHOLE = "a 0;b 0;c 0;d 0;e 0 0;f 0 0;g 0 0 0;h 0 0 0;";
    /** Trees come to each of the 64 sets; found by a search. */
    private static final String ALL_SETS = "f 3 2;e 4 1;e 5 2;c 0;h 3 2 4;h 0 2 0;e 3 5;e 5 0;f 0 5;f 4 3;f 2 1;e 1 4;"
        + "f 5 4;f 1 0;e 2 3;h 3 0 1;";
    /** States 0 .. 4 are come to by trees of 1, 3, 7, 15, 31 signs, state 5 by one of 32. */
    static final String DOUBLING = "a 0;g 0 0 1;g 1 1 2;g 2 2 3;g 3 3 4;e 4 5;";

    /** Laws with several good trees, and the first of those with the fewest signs. */
    static final String[][] FIRSTS = {
        {"a 0;b 1;g 1 0 2;good 2;", "gba"}, {"a 0;b 1;e 1 2;e 2 3;f 0 3;good 3;", "fa"},
        {"a 0;b 1;g 0 0 2;h 1 1 3;e 2 3;good 3;", "hbb"},
        {"b 0;a 0;good 0;", "a"}, {"c 0;d 1;good 0 1;", "c"}, {"d 0;c 1;good 0 1;", "c"},
        {"a 0;f 0 1;e 0 1;good 1;", "ea"}, {"a 0;e 0 1;f 0 2;good 1 2;", "ea"}, {"a 0;f 0 1;e 0 2;good 1 2;", "ea"},
        {"a 0;b 1;e 1 2;f 0 3;good 2 3;", "eb"}, {"a 0;b 1;f 0 2;e 1 3;good 2 3;", "eb"},
        {"a 0;h 0 0 1;g 0 0 1;good 1;", "gaa"}, {"a 0;h 0 0 1;g 0 0 2;good 1 2;", "gaa"},
        {"a 0;b 1;g 0 1 2;g 1 0 2;good 2;", "gab"}, {"b 0;a 1;g 0 1 2;g 1 0 2;good 2;", "gab"},
        {"a 0;b 1;c 2;g 0 2 3;g 0 1 3;good 3;", "gab"}, {"a 0;b 1;c 2;g 0 2 3;g 0 1 4;good 3 4;", "gab"},
        {"a 0;b 1;c 2;g 0 1 3;g 0 2 4;good 3 4;", "gab"}, {"a 0;b 1;c 2;g 2 0 3;g 1 2 4;good 3 4;", "gbc"},
        {"a 0;e 0 1;g 1 0 2;g 0 1 2;good 2;", "gaea"}, {"a 0;e 0 1;g 1 0 2;g 0 1 3;good 2 3;", "gaea"},
        {"a 0;e 0 1;f 0 2;g 2 0 3;g 1 0 3;good 3;", "geaa"}, {"a 0;e 0 1;f 0 2;g 2 0 3;g 1 0 4;good 3 4;", "geaa"},
        {"a 0;b 1;c 2;e 2 3;e 1 4;g 0 3 5;g 0 4 5;good 5;", "gaeb"},
        {"b 0;c 1;e 1 2;f 0 2;e 2 3;good 3;", "eec"},
        {"d 0;c 1;g 0 1 2;g 1 0 2;f 2 3;h 0 1 4;h 1 0 4;e 4 3;good 3;", "ehcd"}};

    private AllTreesBounds() {
    }

    // ---- 16: sets

    static void promise16_sets_countTheEmptyOneIfATreeComesToIt() {
        TreeBecomes x = Due.made(WHOLE, "");
        Due.same("no tree comes to no state", x.sets(), 1);
        for (int k = 0; k < 8; k++) {
            x.turn(k, 0);
            Due.same("now one does: rule " + k, x.sets(), 2);
            x.turn(k, 1);
            Due.same("and no more", x.sets(), 1);
        }
    }

    static void promise16_sets_areAtLeastOne() {
        Due.same("no rules", Due.made("", "").sets(), 1);
        Due.same("good alone", Due.made("good 0 1 2 3 4 5;", "").sets(), 1);
        Due.same("no leaf", Due.made("e 0 0;g 0 0 0;", "").sets(), 1);
        TreeBecomes x = Due.made(WHOLE, "");
        for (int k = 0; k < 8; k++) {
            x.turn(k, 0);
        }
        Due.same("all are off", x.sets(), 1);
    }

    static void promise16_sets_areAtMost64() {
        TreeBecomes x = Due.made(ALL_SETS, "");
        Due.same("all sets of six states", x.sets(), 64);
        Model m = new Model();
        for (char c : ALL_SETS.toCharArray()) {
            m.type(c, 1);
        }
        m.law();
        Due.same("as the model tells", m.sets(), 64);
    }

    /** Trees of more than 31 signs are trees, too. */
    static void promise16_sets_countThoseOfGreatTreesOnly() {
        Due.same("one set more by 32 signs", Due.made(DOUBLING, "").sets(), 7);
    }

    // ---- 17: classes

    static void promise17_classes_areAtLeastOne() {
        Due.same("no rules", Due.made("", "").classes(), 1);
        Due.same("nothing good", Due.made(ALL_SETS, "").classes(), 1);
        Due.same("all trees good", Due.made(WHOLE + "good 0;", "").classes(), 1);
    }

    /** A tree that no greater one has told apart yet: good or not tells, too. */
    static void promise17_classes_tellGoodFromNot() {
        TreeBecomes x = Due.made("a 0;b 1;", "");
        Due.same("none is good", x.classes(), 1);
        x.good(0, 1);
        Due.same("a is", x.classes(), 2);
        x.good(1, 1);
        Due.same("a and b are", x.classes(), 2);
        x.good(0, 0);
        Due.same("b is", x.classes(), 2);
        x.good(5, 1);
        Due.same("a state that no tree comes to", x.classes(), 2);
    }

    static void promise17_classes_areAtMostAsManyAsSets() {
        TreeBecomes x = Due.made(DOUBLING + "good 5;", "");
        Due.same("sets", x.sets(), 7);
        Due.same("each set is a class", x.classes(), 7);
        TreeBecomes y = Due.made("a 0;b 1;e 0 2;e 1 2;good 2;", "");
        Due.same("sets", y.sets(), 4);
        Due.same("a and b are of one", y.classes(), 3);
    }

    /** Told apart only as a first arm, only as a second one, only below five others, only by more than 31 signs. */
    static void promise17_classes_lookAtEachPlace() {
        Due.same("as a first arm", Due.made("a 0;b 1;c 2;g 0 2 3;good 3;", "").classes(), 4);
        Due.same("as a second arm", Due.made("a 0;b 1;c 2;g 2 0 3;good 3;", "").classes(), 4);
        Due.same("far below", Due.made("e 4 5;e 3 4;e 2 3;e 1 2;e 0 1;a 0;good 5;", "").classes(), 7);
        Due.same("by great trees", Due.made(DOUBLING + "good 5;", "").classes(), 7);
    }

    /** A law behind any other one is told as by a new object. */
    static void promise17_classes_forgetAnEarlierLaw() {
        for (String[] first : FIRSTS) {
            int due = Due.made(first[0], "").classes();
            TreeBecomes x = Due.made(ALL_SETS + "good 0;", "");
            Due.holds("many classes", x.classes() > due);
            Due.holds("law", Due.law(x, first[0]) >= 0);
            Due.same(first[0] + " behind all sets", x.classes(), due);
            for (String[] earlier : FIRSTS) {
                TreeBecomes y = Due.made(earlier[0], "");
                Due.holds("classes", y.classes() > 1);
                Due.holds("law", Due.law(y, first[0]) >= 0);
                Due.same(first[0] + " behind " + earlier[0], y.classes(), due);
            }
        }
    }

    // ---- 18: useful

    static void promise18_useful_mayBeNoneOrAll() {
        Due.same("no rules", Due.made("good 0 1 2 3 4 5;", "").useful(), 0);
        Due.same("nothing good", Due.made(DOUBLING, "").useful(), 0);
        Due.same("good, but no tree comes to it", Due.made("a 0;e 1 2;good 2;", "").useful(), 0);
        Due.same("all six", Due.made(DOUBLING + "good 5;", "").useful(), 63);
        Due.same("all but the one of 32 signs", Due.made(DOUBLING + "good 4;", "").useful(), 31);
        Due.same("one", Due.made("a 5;good 5;", "").useful(), 32);
    }

    /** Six states one behind the other: in whichever order the rules are told. */
    static void promise18_useful_throughAllStates() {
        Due.same("from the last to the first", Due.made("e 4 5;e 3 4;e 2 3;e 1 2;e 0 1;a 0;good 5;", "").useful(), 63);
        Due.same("from the first to the last", Due.made("a 0;e 0 1;e 1 2;e 2 3;e 3 4;e 4 5;good 5;", "").useful(), 63);
        Due.same("none behind the good one", Due.made("e 4 5;e 3 4;e 2 3;e 1 2;e 0 1;a 0;good 4;", "").useful(), 31);
    }

    static void promise18_useful_needsBothHalves() {
        TreeBecomes x = Due.made("a 0;b 1;c 2;e 0 3;f 4 3;g 1 4 3;h 2 0 3;good 3;", "");
        Due.same("0, 2, 3; not 1, whose other arm has none; not 4, which has none", x.useful(), 1 | 4 | 8);
        x.turn(0, 0);
        Due.same("without a nothing is left", x.useful(), 0);
        x.turn(0, 1);
        x.turn(3, 0);
        Due.same("0 by its second place", x.useful(), 1 | 4 | 8);
        x.turn(6, 0);
        Due.same("no way to a good one", x.useful(), 0);
        x.good(1, 1);
        Due.same("a good state by itself", x.useful(), 2);
    }

    // ---- 19: least

    static void promise19_least_tellsEachSignAndNoMore() {
        TreeBecomes x = Due.made("b 0;f 0 1;good 1;", "");
        int[] due = {2, 5, 1, NOT_SO_MANY, NOT_SO_MANY};
        for (int i = -1; i <= 3; i++) {
            Due.same("least " + i, x.least(i), due[i + 1]);
        }
        for (int i : new int[] {30, 31, 32, 33, 64, 256, 65536, HIGH - 1, HIGH}) {
            Due.same("least " + i, x.least(i), NOT_SO_MANY);
        }
        TreeBecomes one = Due.made("d 0;good 0;", "");
        Due.same("one sign", one.least(-1), 1);
        Due.same("it", one.least(0), 3);
        Due.same("no second", one.least(1), NOT_SO_MANY);
    }

    static void promise19_least_refusesNumbersBelow() {
        for (int i : Twins.outside(-1, HIGH)) {
            Twins.refused("least " + i, BAD, x -> x.least(i));
        }
        TreeBecomes x = Due.made("d 0;good 0;", "");
        Due.same("-2", x.least(-2), BAD);
        Due.same("the least int", x.least(Integer.MIN_VALUE), BAD);
    }

    static void promise19_least_has31SignsAtMost() {
        int[] signs = {1, 3, 7, 15, 31, NONE};
        for (int state = 0; state <= 5; state++) {
            TreeBecomes x = Due.made(DOUBLING + "good " + state + ";", "");
            Due.same("for state " + state, x.least(-1), signs[state]);
            Due.same("a good tree there is", Integer.bitCount(x.useful()), state + 1);
        }
        TreeBecomes x = Due.made(DOUBLING + "good 4 5;", "");
        String least = Due.least(x);
        Due.same("its signs", least.length(), 31);
        Due.same("the last", x.least(30), 0);
        Due.same("none behind it", x.least(31), NOT_SO_MANY);
        Due.same("it is a tree", Due.tree(x, least), 31);
        Due.same("and good", x.isGood(), 1);
        x.good(4, 0);
        Due.same("32 signs are too many", x.least(-1), NONE);
        Due.same("though such a tree is good", x.useful(), 63);
    }

    /** 31 signs in another way, where a way to 32 comes first by its signs. */
    static void promise19_least_prefersFewerSigns() {
        TreeBecomes x = Due.made("a 0;h 0 0 1;h 1 1 2;h 2 2 3;h 3 3 4;e 4 5;e 5 5;good 4 5;", "");
        Due.same("31", x.least(-1), 31);
        Due.same("with h ahead, though e comes before it", x.least(0), 7);
    }

    static void promise19_least_isTheFirstOfSeveral() {
        for (String[] first : FIRSTS) {
            TreeBecomes x = Due.made(first[0], "");
            Due.holds(first[0] + " least is " + Due.least(x), Due.least(x).equals(first[1]));
        }
    }

    static void promise19_least_tellsNoneForEachSign() {
        for (String law : new String[] {"", "good 0;", "a 0;", "e 0 0;good 0;", DOUBLING + "good 5;"}) {
            TreeBecomes x = Due.made(law, "");
            for (int i : new int[] {-1, 0, 1, 30, 31, 32, HIGH}) {
                Due.same(law + " least " + i, x.least(i), NONE);
            }
            Due.same("BAD ahead of NONE", x.least(-2), BAD);
        }
    }

    // ---- 20: many

    static void promise20_many_refusesOtherNumbersOfSigns() {
        Twins.refusedOutside("many", 1, MOST_COUNTED, BAD, (x, n) -> x.many(n));
    }

    /** All trees, by the sums of their arms' sizes: the greatest numbers there are. */
    static void promise20_many_countsUpTo15Signs() {
        TreeBecomes x = Due.made(WHOLE + "good 0;", "");
        long[] all = new long[MOST_COUNTED + 1];
        for (int n = 1; n <= MOST_COUNTED; n++) {
            all[n] = n == 1 ? 4 : 2 * all[n - 1];
            for (int k = 1; k < n - 1; k++) {
                all[n] += 2 * all[k] * all[n - 1 - k];
            }
            Due.same("many " + n, x.many(n), all[n]);
        }
        Due.holds("more than an int holds", all[MOST_COUNTED] > HIGH);
        Due.same("0", x.many(0), BAD);
        Due.same("16", x.many(16), BAD);
    }

    static void promise20_many_mayBeNone() {
        TreeBecomes x = Due.made("a 0;e 0 1;e 1 2;good 2;", "");
        long[] due = {0, 0, 1, 0, 0};
        for (int n = 1; n <= 5; n++) {
            Due.same("many " + n, x.many(n), due[n - 1]);
        }
        Due.same("many 15", x.many(15), 0);
        x.good(2, 0);
        Due.same("nothing good", x.many(3), 0);
    }

    /** Each sign with arms by itself, over arms that come to other sets. */
    static void promise20_many_countsBySign() {
        for (String law : new String[] {"e 2 3;g 0 1 4;", "e 2 3;h 0 1 4;", "f 2 3;g 0 1 4;", "f 2 3;h 0 1 4;"}) {
            TreeBecomes x = Due.made("a 0;b 1;c 2;" + law + "good 3 4;", "");
            long[] due = {0, 1, 1, 0};
            for (int n = 1; n <= 4; n++) {
                Due.same(law + " many " + n, x.many(n), due[n - 1]);
            }
        }
    }

    /** A tree is counted once, in however many ways it is good. */
    static void promise20_many_countsTreesNotWays() {
        TreeBecomes x = Due.made("a 0;a 0;a 1;e 0 0;e 0 0;e 1 0;good 0 1;", "");
        Due.same("one sign", x.many(1), 1);
        Due.same("fifteen", x.many(15), 1);
        TreeBecomes y = Due.made(DOUBLING + "good 3;", "");
        Due.same("the only one of 15", y.many(15), 1);
        Due.same("none of 14", y.many(14), 0);
    }
}
