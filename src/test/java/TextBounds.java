/** Boundary cases of promises 1 to 5: a new object, type, clear, law, tree. */
final class TextBounds {
    private static final int BAD = -1, STATE = -2, FULL = -3, NONE = -9, NO = -1000000;
    private static final int MOST_BYTES = 300;
    private static final int MOST_CALLS = 512;
    private static final String SIXTEEN = "a 0;b 1;c 2;d 3;e 0 1;e 1 2;f 2 3;f 3 4;g 0 1 2;g 1 2 3;g 2 3 4;g 3 4 5;"
        + "h 0 0 0;h 1 1 1;h 2 2 2;h 5 5 5;";
    private static final String FULL_TREE = "g".repeat(15) + "a".repeat(16);

    private TextBounds() {
    }

    // ---- 1: a new object

    static void promise01_newObject_hasNoRules() {
        TreeBecomes x = new TreeBecomes();
        Due.same("rules", x.count(0), 0);
        Due.same("rules on", x.count(1), 0);
        for (int what = 0; what <= 4; what++) {
            Due.same("rule 0, " + what, x.rule(0, what), BAD);
        }
        Due.same("turn 0 on", x.turn(0, 1), BAD);
        Due.same("turn 0 off", x.turn(0, 0), BAD);
        Due.same("keep", x.keep(0), 0);
    }

    static void promise01_newObject_hasNothingGood() {
        TreeBecomes x = new TreeBecomes();
        Due.same("good states", x.count(2), 0);
        Due.same("useful", x.useful(), 0);
        for (int i = -1; i <= 31; i++) {
            Due.same("least " + i, x.least(i), NONE);
        }
        for (int n = 1; n <= 15; n++) {
            Due.same("many " + n, x.many(n), 0);
        }
        for (int state = 0; state <= 5; state++) {
            Due.same("state " + state, x.good(state, 0), 0);
        }
    }

    static void promise01_newObject_hasNoTree() {
        TreeBecomes x = new TreeBecomes();
        Due.same("nodes", x.count(3), 0);
        Due.same("isGood", x.isGood(), STATE);
        Due.same("runs", x.runs(), STATE);
        Due.same("mend", x.mend(-1), STATE);
        Due.same("mend 0", x.mend(0), BAD);
        Due.same("node 0", x.node(0, 0), BAD);
        Due.same("sign 0", x.sign(0, 0), BAD);
        Due.same("exchange 0", x.exchange(0), BAD);
        Due.same("mark 0", x.mark(0, 0), NO);
        for (int state = 0; state <= 5; state++) {
            Due.same("places " + state, x.places(state), 0);
        }
    }

    static void promise01_newObject_hasNoImageNoTextNoTrace() {
        TreeBecomes x = new TreeBecomes();
        for (int image = 0; image <= 1; image++) {
            Due.same("back " + image, x.back(image), STATE);
            Due.same("alike " + image, x.alike(image), STATE);
            Due.same("apart " + image, x.apart(image, -1), STATE);
            Due.same("both " + image, x.both(image, 1), STATE);
        }
        Due.same("bytes", x.count(4), 0);
        Due.same("clear", x.clear(), 0);
        Due.same("trace", x.trace(), 0);
    }

    /** By no rule each tree comes to no state: one set, the empty one, and one class. */
    static void promise01_newObject_hasTheEmptySetAlone() {
        TreeBecomes x = new TreeBecomes();
        Due.same("sets", x.sets(), 1);
        Due.same("classes", x.classes(), 1);
    }

    static void promise01_newObject_sharesNothingWithOthers() {
        TreeBecomes x = new TreeBecomes();
        TreeBecomes used = Twins.make(Twins.Life.FULL);
        Due.same("the other one's rules", used.count(0), 16);
        Due.holds("as if alone", Twins.look(x).equals(Twins.unasked(Twins.Life.NEW)));
    }

    /** "At most 512 calls": each call as the 512th one, against the same one early on. */
    static void promise01_newObject_answersItsLastCall() {
        for (int call = 0; call < Calls.ALL; call++) {
            TreeBecomes early = new TreeBecomes();
            int calls = settle(early);
            TreeBecomes late = new TreeBecomes();
            for (int k = 0; k < MOST_CALLS - calls - 1; k++) {
                busyCall(late, k);
            }
            Due.same("settled by as many calls", settle(late), calls);
            long due = Calls.ask(early, call);
            Due.same("call " + call + " as the last one", Calls.ask(late, call), due);
        }
    }

    /** Each fills, changes or asks something; none comes to the trace. */
    private static void busyCall(TreeBecomes x, int k) {
        int image = k / 16 % 2;
        switch (k % 16) {
            case 0: Due.type(x, "a 0;    "); break;
            case 1: Due.type(x, "d  5;   "); break;
            case 2: Due.type(x, "g 0 5 5;"); break;
            case 3: Due.type(x, "good 5; "); break;
            case 4: x.law(); break;
            case 5: x.clear(); break;
            case 6: Due.type(x, "h a b   "); break;
            case 7: x.tree(); break;
            case 8: x.good(k % 6, 1); break;
            case 9: x.keep(image); break;
            case 10: x.turn(0, 0); break;
            case 11: x.both(image, 15); break;
            case 12: x.many(15); break;
            case 13: x.classes(); break;
            case 14: x.exchange(0); break;
            default: x.back(image);
        }
    }

    /** The same law, tree, images and text, whatever there was; by how many calls. */
    private static int settle(TreeBecomes x) {
        x.clear();
        int typed = Due.type(x, "a 0;b 1;e 0 1;g 0 1 2;h 1 0 2;good 2;");
        x.law();
        typed += Due.type(x, "ghbab");
        x.tree();
        x.keep(0);
        x.turn(2, 0);
        x.keep(1);
        x.good(1, 1);
        x.sign(0, 7);
        typed += Due.type(x, "gaa");
        return typed + 8;
    }

    // ---- 2: type

    static void promise02_type_takesOneToEightBytes() {
        for (int n = 1; n <= 8; n++) {
            TreeBecomes x = new TreeBecomes();
            Due.same("type " + n, x.type(0x6161616161616161L, n), n);
            Due.same("bytes", x.count(4), n);
            Due.same("a tree behind the first", x.tree(), n == 1 ? 1 : -11);
        }
    }

    static void promise02_type_refusesOtherNumbersOfBytes() {
        Twins.refusedOutside("type", 1, 8, BAD, (x, n) -> x.type(0x6161616161616161L, n));
    }

    static void promise02_type_putsTheHighestByteFirst() {
        TreeBecomes x = new TreeBecomes();
        Due.same("type", x.type(0x6768616265656364L, 8), 8);
        Due.same("tree", x.tree(), -17);
        x.clear();
        Due.same("type", x.type(0x6768616265656520L, 8), 8);
        Due.same("type", x.type(0x63, 1), 9);
        Due.same("tree", x.tree(), 8);
        Due.holds("signs", Due.signsOfTree(x).equals("ghabeeec"));
    }

    /** Of any long the lowest n bytes, whatever stands above them. */
    static void promise02_type_takesAnyLong() {
        long[] above = {0, -1, Long.MIN_VALUE, Long.MAX_VALUE, 0x8080808080808080L, 0x6161616161616161L};
        for (long v : above) {
            for (int n = 1; n < 8; n++) {
                TreeBecomes x = new TreeBecomes();
                long kept = (1L << 8 * n) - 1;
                Due.same("type", x.type(v & ~kept | 0x2020202020202061L & kept, n), n);
                Due.same("a behind " + (n - 1) + " blanks", x.tree(), 1);
                Due.same("its sign", x.node(0, 0), 0);
            }
        }
        TreeBecomes x = new TreeBecomes();
        Due.same("the least long", x.type(Long.MIN_VALUE, 8), 8);
        Due.same("begins with 128", x.tree(), -10);
        x.clear();
        Due.same("its lowest byte", x.type(Long.MIN_VALUE, 1), 1);
        Due.same("is 0", x.law(), -10);
        x.clear();
        Due.same("the greatest long", x.type(Long.MAX_VALUE, 8), 8);
        Due.same("begins with 127", x.law(), -10);
        x.clear();
        Due.same("a byte above 127 below a letter", x.type(0x61ff, 2), 2);
        Due.same("is not joined with it", x.tree(), -11);
    }

    /** Each byte comes as it is: what it begins is told by both readings. */
    static void promise02_type_takesEachByte() {
        for (int b = 0; b <= 255; b++) {
            TreeBecomes x = new TreeBecomes();
            Due.same("type " + b, x.type(b, 1), 1);
            boolean isSign = b >= 'a' && b <= 'h';
            Due.same("law of " + b, x.law(), b == ' ' ? 0 : isSign ? -11 : -10);
            x.clear();
            x.type(b, 1);
            Due.same("tree of " + b, x.tree(), b == ' ' || b >= 'e' && b <= 'h' ? -11 : isSign ? 1 : -10);
        }
    }

    static void promise02_type_isFullAbove300Bytes() {
        for (int n = 1; n <= 8; n++) {
            TreeBecomes x = new TreeBecomes();
            blanks(x, MOST_BYTES - n);
            Due.same("the last " + n, x.type(0x2020202020202020L, n), MOST_BYTES);
            Due.same("bytes", x.count(4), MOST_BYTES);
            TreeBecomes y = new TreeBecomes();
            blanks(y, MOST_BYTES - n + 1);
            Due.same(n + ", one too many", y.type(0x6161616161616161L, n), FULL);
            Due.same("bytes", y.count(4), MOST_BYTES - n + 1);
            Due.same("none of them came", y.tree(), -10 - (MOST_BYTES - n + 1));
        }
    }

    static void promise02_type_isRefusedWhenFull() {
        for (int n = 1; n <= 8; n++) {
            int bytes = n;
            Twins.refused(Twins.Life.FULL, "type " + n, FULL, x -> x.type(0x6161616161616161L, bytes));
        }
        Twins.refused(Twins.Life.FULL, "BAD ahead of FULL", BAD, x -> x.type('a', 0));
        Twins.refused(Twins.Life.FULL, "BAD ahead of FULL", BAD, x -> x.type('a', 9));
    }

    static void promise02_type_takesAgainWhatWasFull() {
        TreeBecomes x = new TreeBecomes();
        blanks(x, MOST_BYTES);
        Due.same("full", x.type('a', 1), FULL);
        x.clear();
        Due.same("cleared", x.type('a', 1), 1);
        blanks(x, MOST_BYTES - 1);
        Due.same("a tree of 300 bytes", x.tree(), 1);
        Due.same("read as a tree", x.type(' ', 1), 1);
        blanks(x, MOST_BYTES - 1);
        Due.same("a law of 300 bytes", x.law(), 0);
        Due.same("read as a law", x.type(' ', 8), 8);
    }

    private static void blanks(TreeBecomes x, int many) {
        Due.type(x, " ".repeat(many));
    }

    // ---- 3: clear

    static void promise03_clear_tellsHowManyBytesThereWere() {
        for (int n : new int[] {0, 1, 8, 9, 299, 300}) {
            TreeBecomes x = new TreeBecomes();
            Due.type(x, "a".repeat(n));
            Due.same("clear " + n, x.clear(), n);
            Due.same("bytes", x.count(4), 0);
            Due.same("clear again", x.clear(), 0);
            Due.same("an empty tree", x.tree(), -10);
        }
    }

    static void promise03_clear_changesNothingElse() {
        for (Twins.Life life : Twins.Life.values()) {
            TreeBecomes x = Twins.make(life);
            TreeBecomes y = Twins.make(life);
            x.clear();
            Due.type(x, "a 0;g 1");
            y.clear();
            y.clear();
            Due.type(y, "a 0;g 1");
            Due.holds("alike", Twins.look(x).equals(Twins.look(y)));
        }
        TreeBecomes x = Twins.make(Twins.Life.FULL);
        Due.same("clear", x.clear(), MOST_BYTES);
        int[] due = {16, Integer.bitCount(PairLaws.ONE_TOO_MANY.then), 1 << 1 | 1 << 5, 31, 0};
        for (int what = 0; what <= 4; what++) {
            Due.same("count " + what, x.count(what), due[what]);
        }
        Due.same("trace", x.trace(), 100001);
        Due.same("image", x.alike(0), FULL);
    }

    // ---- 4: law

    private static void taken(String text, int items) {
        TreeBecomes x = new TreeBecomes();
        Due.same("law [" + text + "]", Due.law(x, text), items);
        Due.same("bytes left of [" + text + "]", x.count(4), 0);
    }

    private static void fault(String text, int place) {
        TreeBecomes x = new TreeBecomes();
        Due.same("law [" + text + "]", Due.law(x, text), -10 - place);
        Due.same("bytes left of [" + text + "]", x.count(4), text.length());
        Due.same("rules by [" + text + "]", x.count(0), 0);
        Due.same("good by [" + text + "]", x.count(2), 0);
    }

    static void promise04_law_mayBeEmpty() {
        taken("", 0);
        taken(" ", 0);
        taken(" ".repeat(MOST_BYTES), 0);
        TreeBecomes x = Twins.make(Twins.Life.FULL);
        Due.same("empty", Due.law(x, ""), 0);
        Due.same("no rules", x.count(0), 0);
        Due.same("none on", x.count(1), 0);
        Due.same("nothing good", x.count(2), 0);
        Due.same("no image 0", x.back(0), STATE);
        Due.same("no image 1", x.back(1), STATE);
        Due.same("the tree stays", x.count(3), 31);
    }

    static void promise04_law_mayHave300Bytes() {
        taken(Twins.FULL_TEXT, 43);
        String text = SIXTEEN + "good 5;".repeat((MOST_BYTES - SIXTEEN.length()) / 7);
        text += " ".repeat(MOST_BYTES - text.length());
        Due.same("bytes", text.length(), MOST_BYTES);
        taken(text, 16 + (MOST_BYTES - SIXTEEN.length()) / 7);
        taken("good" + " 5".repeat(147) + " ;", 1);
        taken(" ".repeat(293) + "good 3;", 1);
        fault(" ".repeat(299) + ";", 299);
        fault(" ".repeat(294) + "good 3", 300);
        fault("good" + " 5".repeat(148), 300);
    }

    static void promise04_law_takesBlanksBetweenTokens() {
        taken("a 0;", 1);
        taken("  a   0  ;  ", 1);
        taken(" g 1  2   3 ; good  1 2 ; ", 2);
        for (int b : new int[] {0, 9, 10, 11, 12, 13, 31, 33, 127, 128, 160, 255}) {
            fault("a" + (char) b + "0;", 1);
            fault("a 0;" + (char) b, 4);
            fault((char) b + "a 0;", 0);
        }
        fault("go od 0;", 0);
        fault("a 1 2;", 4);
    }

    static void promise04_law_takesSixteenRules() {
        TreeBecomes x = new TreeBecomes();
        Due.same("15 rules", Due.law(x, SIXTEEN.substring(0, SIXTEEN.length() - 8)), 15);
        Due.same("rule 14", x.rule(14, 0), 7);
        Due.same("rule 15", x.rule(15, 0), BAD);
        Due.same("16 rules", Due.law(x, SIXTEEN), 16);
        Due.same("rules", x.count(0), 16);
        Due.same("all are on", x.count(1), 16);
        Due.same("rule 15", x.rule(15, 3), 5);
        Due.same("16 rules and good", Due.law(x, SIXTEEN + "good 0;good 5;"), 18);
        Due.same("good", x.count(2), 33);
        Due.same("16 times the same", Due.law(x, "a 0;".repeat(16)), 16);
        Due.same("rules", x.count(0), 16);
    }

    static void promise04_law_refusesThe17thRulesSign() {
        int place = SIXTEEN.length();
        for (char sign = 'a'; sign <= 'h'; sign++) {
            fault(SIXTEEN + sign, place);
            fault(SIXTEEN + sign + " 0;", place);
            fault(SIXTEEN + sign + " 0 0 0;", place);
            fault(SIXTEEN + sign + " 9;", place);
        }
        fault(SIXTEEN + "   a 0;", place + 3);
        fault(SIXTEEN + "good 0;a 0;", place + 7);
        fault("good 0;" + SIXTEEN + "a 0;", place + 7);
        fault("a 0;".repeat(17), 64);
        fault("a 0;".repeat(75), 64);
    }

    static void promise04_law_takesStatesUpTo5() {
        TreeBecomes x = new TreeBecomes();
        for (int state = 0; state <= 5; state++) {
            String s = " " + state;
            String text = "a" + s + ";e" + s + s + ";g" + s + s + s + ";good" + s + ";";
            Due.same(text, Due.law(x, text), 4);
            int[][] due = {{NONE, NONE, state}, {state, NONE, state}, {state, state, state}};
            for (int k = 0; k < 3; k++) {
                for (int what = 1; what <= 3; what++) {
                    Due.same(text + " rule " + k + " " + what, x.rule(k, what), due[k][what - 1]);
                }
            }
            Due.same(text + " good", x.count(2), 1 << state);
        }
    }

    /** In each place of each item: a NUMBER above 5, one above 99, one with a 0 ahead of others. */
    static void promise04_law_refusesNumbersAbove5() {
        String[] wrong = {"6", "7", "8", "9", "10", "15", "19", "50", "55", "59", "60", "98", "99", "100", "101", "105",
            "109", "256", "260", "1000", "65536", "65541", "2147483648", "4294967296", "4294967301",
            "18446744073709551616", "18446744073709551621", "1".repeat(200), "00", "01", "05", "06", "000",
            "005", "0".repeat(200)};
        for (String number : wrong) {
            fault("a " + number + ";", 2);
            fault("e " + number + " 0;", 2);
            fault("e 0 " + number + ";", 4);
            fault("h " + number + " 0 0;", 2);
            fault("h 0 " + number + " 0;", 4);
            fault("h 0 0 " + number + ";", 6);
            fault("good " + number + ";", 5);
            fault("good 0 " + number + ";", 7);
            fault("a 0;   f  5   " + number, 14);
        }
    }

    static void promise04_law_refusesBytesThatBeginNoToken() {
        for (int b = 0; b <= 255; b++) {
            boolean begins = b == ' ' || b == ';' || b >= '0' && b <= '9' || b >= 'a' && b <= 'z';
            if (!begins) {
                char c = (char) b;
                fault(c + "", 0);
                fault("  " + c + " 0;", 2);
                fault("a " + c + "0;", 2);
                fault("a" + c, 1);
                fault("a 0" + c, 3);
                fault("a 0" + c + ";", 3);
                fault("a 0;" + c, 4);
                fault("good 1" + c + ";", 6);
            }
        }
        fault("a -1;", 2);
        fault("a +1;", 2);
        fault("a 1.;", 3);
        fault("A 0;", 0);
        fault("Good 0;", 0);
    }

    /** A word is told as a whole, by its first byte's place. */
    static void promise04_law_refusesOtherWords() {
        String[] wrong = {"i", "j", "z", "aa", "ab", "az", "gh", "go", "goo", "god", "gooo", "goodd", "goods", "goodz",
            "agood",
            "ggood", "oood", "gxod", "goxd", "goox", "hood", "bad", "g".repeat(255)};
        for (String word : wrong) {
            fault(word, 0);
            fault(word + " 0;", 0);
            fault("  " + word + " 0 0;", 2);
            fault("a 0;" + word + ";", 4);
            fault("a " + word + ";", 2);
            fault("e 0 " + word + ";", 4);
            fault("a 0 " + word, 4);
            fault("good 0 " + word + " 1;", 7);
        }
    }

    /** Right tokens in places where they can't stand. */
    static void promise04_law_refusesTokensOutOfPlace() {
        for (String token : new String[] {";", "0", "5"}) {
            fault(token, 0);
            fault("   " + token + " a 0;", 3);
            fault("a 0;" + token, 4);
        }
        for (String token : new String[] {"a", "h", "good", ";"}) {
            fault("a " + token, 2);
            fault("e " + token, 2);
            fault("e 0 " + token, 4);
            fault("g " + token, 2);
            fault("g 0 " + token, 4);
            fault("g 0 1 " + token, 6);
            fault("good " + token, 5);
        }
        for (String token : new String[] {"a", "h", "good"}) {
            fault("a 0 " + token + " 0;", 4);
            fault("good 0 " + token + " 0;", 7);
        }
        for (String token : new String[] {"0", "5"}) {
            fault("b 0 " + token + ";", 4);
            fault("f 0 1 " + token + ";", 6);
            fault("h 0 1 2 " + token + ";", 8);
        }
    }

    static void promise04_law_mustNotEndTooEarly() {
        String[] begun = {"a", "a 0", "e", "e 0", "e 0 1", "h", "h 0", "h 0 1", "h 0 1 2", "good", "good 0",
            "good 0 1"};
        for (String text : begun) {
            fault(text, text.length());
            fault(text + "   ", text.length() + 3);
            fault("d 4; " + text, text.length() + 5);
        }
    }

    static void promise04_law_tellsTheFirstFault() {
        fault("a 6;b 7;", 2);
        fault("a 0 0;!", 4);
        fault("a 6;" + "b 0;".repeat(17), 2);
        fault("a;goo", 1);
        fault("good 0 9 99 100", 7);
        fault("x 6;", 0);
    }

    static void promise04_law_changesNothingByAFault() {
        String[] wrong = {"a 6;", "b 0;c 1;good 2;d", "good 5;good", "a 0;".repeat(17), SIXTEEN + "good 0 1 2 3 4 5;h",
            ";", "i 0;", "a 100;", "a 05;", " ".repeat(299) + "a", "good 0;" + (char) 255};
        for (String text : wrong) {
            int place = Due.law(new TreeBecomes(), text);
            Due.holds("a fault: " + text, place <= -10);
            Twins.unread(text, place, x -> x.law());
        }
    }

    static void promise04_law_readAnewTurnsAllRulesOn() {
        TreeBecomes x = Twins.make(Twins.Life.USUAL);
        Due.same("a rule is off", x.count(1), 7);
        Due.same("the same again", Due.law(x, Twins.PARITY), 9);
        Due.same("all are on", x.count(1), 8);
        Due.same("rule 7", x.rule(7, 4), 1);
        Due.same("good is what the text tells", x.count(2), 2);
        Due.same("16 rules", Due.law(x, SIXTEEN), 16);
        Due.same("16 on", x.count(1), 16);
        Due.same("nothing is told good", x.count(2), 0);
        Due.same("fewer rules", Due.law(x, "c 4;"), 1);
        Due.same("one on", x.count(1), 1);
        Due.same("rule 1 is gone", x.rule(1, 0), BAD);
        Due.same("rule 1 can't be turned", x.turn(1, 1), BAD);
        Due.same("sets", x.sets(), 2);
    }

    static void promise04_law_readAnewTakesImagesAway() {
        for (String text : new String[] {Twins.PARITY, "", "good 0;"}) {
            TreeBecomes x = Due.made(Twins.PARITY, "gab");
            x.keep(0);
            x.keep(1);
            Due.holds("law [" + text + "]", Due.law(x, text) >= 0);
            for (int image = 0; image <= 1; image++) {
                Due.same("back", x.back(image), STATE);
                Due.same("alike", x.alike(image), STATE);
                Due.same("apart", x.apart(image, 0), STATE);
                Due.same("both", x.both(image, 15), STATE);
            }
            Due.same("kept anew", x.keep(1), x.count(1));
            Due.same("image 1 is there", x.alike(1), 1);
            Due.same("image 0 is not", x.alike(0), STATE);
        }
    }

    static void promise04_law_readAnewLeavesTreeAndTrace() {
        TreeBecomes x = Due.made(Twins.PARITY, "gbea");
        x.mark(5, 0);
        Due.same("good before", x.isGood(), 0);
        Due.same("law", Due.law(x, "a 3;b 4;e 3 5;g 4 5 0;good 0;"), 5);
        Due.holds("signs", Due.signsOfTree(x).equals("gbea"));
        Due.same("states by the new law", x.node(0, 3), 1);
        Due.same("good by the new law", x.isGood(), 1);
        Due.same("trace", x.trace(), 100001);
        Due.same("no tree stays none", new TreeBecomes().law(), 0);
    }

    /** As many rules, all on, before and after: what was told by the earlier law is not told again. */
    static void promise04_law_readAnewIsTheOneThatIsTold() {
        TreeBecomes x = Due.made("a 0;e 0 1;good 1;", "ea");
        long[] first = {1, 1, 3, 3, 3, 2, 4, 0, 1};
        long[] second = {0, 0, 2, 2, 2, 1, 1, 2, 0};
        allAnswers(x, first);
        Due.same("law", Due.law(x, "b 1;c 1;good 1;"), 3);
        allAnswers(x, second);
        Due.same("law", Due.law(x, "a 0;e 0 1;good 1;"), 3);
        allAnswers(x, first);
    }

    private static void allAnswers(TreeBecomes x, long[] due) {
        long[] told = {x.isGood(), x.runs(), x.sets(), x.classes(), x.useful(), x.least(-1), x.least(0), x.many(1),
            x.many(2)};
        for (int k = 0; k < told.length; k++) {
            Due.same("answer " + k, told[k], due[k]);
        }
    }

    static void promise04_law_tellsItemsNotRules() {
        taken("good 0;", 1);
        taken("good 0 1 2 3 4 5;", 1);
        taken("good 0;good 0;a 0;a 0;", 4);
        TreeBecomes x = new TreeBecomes();
        Due.same("items", Due.law(x, "good 0;a 1;good 0 5;a 1;"), 4);
        Due.same("told again is a rule more", x.count(0), 2);
        Due.same("good", x.count(2), 33);
    }

    // ---- 5: tree

    private static void treeTaken(String text, String signs) {
        TreeBecomes x = new TreeBecomes();
        Due.same("tree [" + text + "]", Due.tree(x, text), signs.length());
        Due.same("bytes left of [" + text + "]", x.count(4), 0);
        Due.holds("signs of [" + text + "]", Due.signsOfTree(x).equals(signs));
    }

    private static void treeFault(String text, int place) {
        TreeBecomes x = new TreeBecomes();
        Due.same("tree [" + text + "]", Due.tree(x, text), -10 - place);
        Due.same("bytes left of [" + text + "]", x.count(4), text.length());
        Due.same("nodes by [" + text + "]", x.count(3), 0);
    }

    static void promise05_tree_mayBeOneSign() {
        for (char sign = 'a'; sign <= 'd'; sign++) {
            treeTaken("" + sign, "" + sign);
            treeTaken("  " + sign + " ", "" + sign);
        }
        for (char sign = 'e'; sign <= 'h'; sign++) {
            treeFault("" + sign, 1);
        }
        for (char sign : new char[] {'`', 'i', 'j', 'z', 'A', 'H', '0', ';'}) {
            treeFault("" + sign, 0);
            treeFault("  " + sign, 2);
        }
    }

    static void promise05_tree_mayHave31Signs() {
        String chain = "ef".repeat(15) + "d";
        String comb = "ga".repeat(15) + "b";
        for (String signs : new String[] {FULL_TREE, chain, comb}) {
            treeTaken(signs, signs);
            treeTaken(signs + "   ", signs);
            treeTaken("  " + signs.substring(0, 7) + "  " + signs.substring(7), signs);
        }
        String thirty = "e" + "g".repeat(14) + "a".repeat(15);
        treeTaken(thirty, thirty);
    }

    static void promise05_tree_refusesThe32ndSign() {
        treeFault("e" + FULL_TREE, 31);
        treeFault("e".repeat(31) + "a", 31);
        treeFault("e".repeat(31) + "    a", 35);
        treeFault("  " + "e".repeat(31) + "a", 33);
        treeFault("g".repeat(16) + "a".repeat(17), 31);
        treeFault("g".repeat(31) + "g", 31);
        treeFault("g".repeat(300), 31);
        treeFault("e".repeat(31), 31);
        treeFault("e".repeat(31) + " ", 32);
    }

    static void promise05_tree_refusesWhatComesBehindAWholeOne() {
        for (String behind : new String[] {"a", "e", "h", "i", ";", "0", "!"}) {
            treeFault("a" + behind, 1);
            treeFault("a  " + behind, 3);
            treeFault("gab" + behind, 3);
            treeFault(" geab c" + behind, 6);
            treeFault(FULL_TREE + behind, 31);
            treeFault(FULL_TREE + " " + behind, 32);
        }
    }

    static void promise05_tree_mustNotEndTooEarly() {
        treeFault("", 0);
        for (int n : new int[] {1, 2, 299, 300}) {
            treeFault(" ".repeat(n), n);
        }
        for (String text : new String[] {"e", "g", "ga", "gg", "ggab", "gea", "ha", "e".repeat(30)}) {
            treeFault(text, text.length());
            treeFault(text + "  ", text.length() + 2);
            treeFault("  " + text, text.length() + 2);
        }
    }

    static void promise05_tree_mayHave300Bytes() {
        treeTaken(" ".repeat(299) + "c", "c");
        treeTaken("c" + " ".repeat(299), "c");
        treeTaken(" ".repeat(297) + "gab", "gab");
        treeFault(" ".repeat(299) + "e", 300);
        treeFault("c" + " ".repeat(298) + "c", 299);
    }

    static void promise05_tree_refusesBytesThatAreNoSign() {
        for (int b = 0; b <= 255; b++) {
            if (b != ' ' && (b < 'a' || b > 'h')) {
                treeFault((char) b + "a", 0);
                treeFault("g" + (char) b, 1);
                treeFault("ga " + (char) b, 3);
                treeFault("gab" + (char) b, 3);
            }
        }
    }

    static void promise05_tree_changesNothingByAFault() {
        String[] wrong = {"", "  ", "g", "gab c", "gabi", "e".repeat(31) + "a", FULL_TREE + "a", "a;",
            "" + (char) 255};
        for (String text : wrong) {
            int place = Due.tree(new TreeBecomes(), text);
            Due.holds("a fault: " + text, place <= -10);
            Twins.unread(text, place, x -> x.tree());
        }
    }

    static void promise05_tree_changesTheTreeAlone() {
        TreeBecomes x = Twins.make(Twins.Life.FULL);
        Due.same("one sign instead of 31", Due.tree(x, "d"), 1);
        Due.same("nodes", x.count(3), 1);
        Due.same("node 0", x.node(0, 2), NONE);
        Due.same("node 1 is gone", x.node(1, 0), BAD);
        Due.same("rules", x.count(0), 16);
        Due.same("on", x.count(1), Integer.bitCount(PairLaws.ONE_TOO_MANY.then));
        Due.same("good", x.count(2), 34);
        Due.same("trace", x.trace(), 100001);
        Due.same("image 0", x.alike(0), FULL);
        Due.holds("image 1", x.back(1) >= 0);
        Due.same("its tree", x.count(3), 31);
        Due.same("31 signs instead of one", Due.tree(x, FULL_TREE), 31);
        Due.same("node 30", x.node(30, 2), 0);
    }
}
