/** Each promise by examples: ordinary inputs, the edges the document names, wrong inputs. */
public final class PromisesTest {
    private static final String PARITY = "a 0;b 1;g 0 0 0;g 0 1 1;g 1 0 1;g 1 1 0;e 0 1;e 1 0;good 1;";

    public static void main(String[] args) {
        newObject();
        typing();
        clearing();
        laws();
        lawFaults();
        trees();
        rules();
        turning();
        goods();
        nodes();
        signs();
        exchanging();
        goodTrees();
        runs();
        places();
        mending();
        sets();
        classes();
        useful();
        least();
        many();
        twoLaws();
        tooManyPairs();
        marks();
        images();
        counts();
        Due.finish("PromisesTest");
    }

    private static void newObject() {
        TreeBecomes x = new TreeBecomes();
        for (int what = 0; what <= 4; what++) {
            Due.same("new count " + what, x.count(what), 0);
        }
        Due.same("new trace", x.trace(), 0);
        Due.same("new sets", x.sets(), 1);
        Due.same("new classes", x.classes(), 1);
        Due.same("new least", x.least(-1), TreeBecomes.NONE);
        Due.same("new least 3", x.least(3), TreeBecomes.NONE);
        Due.same("new back", x.back(0), TreeBecomes.STATE);
        Due.same("NO", TreeBecomes.NO, -1000000);
        Due.same("constants", TreeBecomes.BAD * 1000 + TreeBecomes.STATE * 100 + TreeBecomes.FULL * 10
            + TreeBecomes.NONE, -1239);
    }

    private static void typing() {
        TreeBecomes x = new TreeBecomes();
        Due.same("type 0", x.type(97, 0), TreeBecomes.BAD);
        Due.same("type 9", x.type(97, 9), TreeBecomes.BAD);
        Due.same("type -1", x.type(97, -1), TreeBecomes.BAD);
        Due.same("type least", x.type(97, Integer.MIN_VALUE), TreeBecomes.BAD);
        Due.same("type most", x.type(97, Integer.MAX_VALUE), TreeBecomes.BAD);
        Due.same("type high bytes are left", x.type(0x7a7a7a0065616262L, 3), 3);
        Due.same("highest first", x.tree(), -11);
        Due.same("cleared", x.clear(), 3);
        Due.same("type gab", x.type(0x7a7a7a0000676162L, 3), 3);
        Due.same("tree gab", x.tree(), 3);
        Due.same("sign 1", x.node(1, 0), 0);
        Due.same("sign 2", x.node(2, 0), 1);
        for (int k = 1; k <= 37; k++) {
            Due.same("type 8 times " + k, x.type(0x2020202020202020L, 8), 8 * k);
        }
        Due.same("type 5 is too much", x.type(0, 5), TreeBecomes.FULL);
        Due.same("BAD ahead of FULL", x.type(0, 9), TreeBecomes.BAD);
        Due.same("nothing came", x.count(4), 296);
        Due.same("type the last 3", x.type(0x202020, 3), 299);
        Due.same("type 2 is too much", x.type(0, 2), TreeBecomes.FULL);
        Due.same("type the last", x.type(97, 1), 300);
        Due.same("type one is too much", x.type(0, 1), TreeBecomes.FULL);
        Due.same("tree of 300 bytes", x.tree(), 1);
        Due.same("negative bytes", x.type(-1L, 8), 8);
        Due.same("byte 255 begins nothing", x.law(), -10);
    }

    private static void clearing() {
        TreeBecomes x = new TreeBecomes();
        Due.same("clear nothing", x.clear(), 0);
        Due.type(x, "a 0;good 0;");
        Due.same("clear", x.clear(), 11);
        Due.same("clear again", x.clear(), 0);
        Due.same("text", x.count(4), 0);
    }

    private static void laws() {
        TreeBecomes x = new TreeBecomes();
        Due.same("items", Due.law(x, "a 0;  g 0 0 1 ;good 1 5 5;e 1 1;good 0;"), 5);
        Due.same("rules", x.count(0), 3);
        Due.same("on", x.count(1), 3);
        Due.same("good", x.count(2), 1 | 2 | 32);
        Due.same("text is empty", x.count(4), 0);
        Due.tree(x, "gaa");
        x.keep(0);
        x.turn(0, 0);
        Due.same("a fault changes nothing", Due.law(x, "b 1;b 2;good 6;"), -23);
        Due.same("rules after fault", x.count(0), 3);
        Due.same("on after fault", x.count(1), 2);
        Due.same("good after fault", x.count(2), 35);
        Due.same("text after fault", x.count(4), 15);
        Due.same("image after fault", x.alike(0) < 0 ? 1 : 0, 0);
        Due.same("sign of rule 0 after fault", x.rule(0, 0), 0);
        Due.same("law anew", Due.law(x, "b 3;b 3;"), 2);
        Due.same("told again is a rule more", x.count(0), 2);
        Due.same("all on", x.count(1), 2);
        Due.same("nothing good", x.count(2), 0);
        Due.same("the tree stays", x.count(3), 3);
        Due.same("images are gone", x.alike(0), TreeBecomes.STATE);
        Due.same("images are gone: back", x.back(0), TreeBecomes.STATE);
        Due.same("no blanks needed", Due.law(x, "a0;g0 1 2;good1 2;"), 3);
        Due.same("only blanks", Due.law(x, "    "), 0);
        Due.same("nothing", Due.law(x, ""), 0);
        Due.same("no rules", x.count(0), 0);
        StringBuilder sixteen = new StringBuilder();
        for (int k = 0; k < 16; k++) {
            sixteen.append("g ").append(k % 6).append(" 1 2;");
        }
        Due.same("16 rules and good", Due.law(x, sixteen + "good 3;"), 17);
        Due.same("16 on", x.count(1), 16);
        Due.same("the 17th", Due.law(x, sixteen + "good 3;a 7;"), -10 - 128 - 7);
    }

    private static void lawFault(String text, int place) {
        TreeBecomes x = new TreeBecomes();
        Due.same("law " + text, Due.law(x, text), -10 - place);
        Due.same("text of " + text, x.count(4), text.length());
    }

    private static void lawFaults() {
        lawFault("a", 1);
        lawFault("a  ", 3);
        lawFault("a 0", 3);
        lawFault("a 0 ", 4);
        lawFault("a 6;", 2);
        lawFault("a 10;", 2);
        lawFault("a 100;", 2);
        lawFault("a 4294967296;", 2);
        lawFault("a 05;", 2);
        lawFault("a 00;", 2);
        lawFault("a;", 1);
        lawFault("a 0 0;", 4);
        lawFault("e 0;", 3);
        lawFault("e 0 1 2;", 6);
        lawFault("g 0 1;", 5);
        lawFault("g 0;", 3);
        lawFault("g;", 1);
        lawFault("h 0 1 2 3;", 8);
        lawFault("h 0 1 2 ", 8);
        lawFault("a 0;;", 4);
        lawFault(";", 0);
        lawFault("  3;", 2);
        lawFault("i 0;", 0);
        lawFault("A 0;", 0);
        lawFault("aa 0;", 0);
        lawFault("goo 0;", 0);
        lawFault("goods 0;", 0);
        lawFault("food 0;", 0);
        lawFault("gxod 0;", 0);
        lawFault("goxd 0;", 0);
        lawFault("goof 0;", 0);
        lawFault("good", 4);
        lawFault("good;", 4);
        lawFault("good 0", 6);
        lawFault("good 0 a;", 7);
        lawFault("good 0 6;", 7);
        lawFault("a good;", 2);
        lawFault("a b;", 2);
        lawFault("a 0b;", 3);
        lawFault("a -1;", 2);
        lawFault("a 0:", 3);
        lawFault("a\t0;", 1);
        lawFault("a 0 0; !", 4);
        lawFault("a 0;\n", 4);
        lawFault("a 0;" + (char) 0, 4);
        lawFault("a 19;", 2);
        lawFault("a 9;", 2);
        lawFault("a 09;", 2);
        lawFault("a " + (char) 200 + ";", 2);
        lawFault("a " + (char) 0 + ";", 2);
    }

    private static void treeFault(String text, int place) {
        TreeBecomes x = new TreeBecomes();
        Due.tree(x, "gab");
        Due.same("tree " + text, Due.tree(x, text), -10 - place);
        Due.same("text of " + text, x.count(4), text.length());
        Due.same("the tree stays", x.count(3), 3);
        Due.same("its second", x.node(1, 0), 0);
    }

    private static void trees() {
        TreeBecomes x = new TreeBecomes();
        Due.same("tree", Due.tree(x, " g e a  hbf c "), 7);
        Due.same("text is empty", x.count(4), 0);
        Due.same("signs", Due.signsOfTree(x).equals("geahbfc") ? 1 : 0, 1);
        String full = "g".repeat(15) + "a".repeat(16);
        Due.same("31 signs", Due.tree(x, full), 31);
        Due.same("31 signs in a row", Due.tree(x, "e".repeat(30) + "d"), 31);
        treeFault("", 0);
        treeFault("   ", 3);
        treeFault("e", 1);
        treeFault("g a ", 4);
        treeFault("a b", 2);
        treeFault("aa", 1);
        treeFault("gabc", 3);
        treeFault("i", 0);
        treeFault("ga;", 2);
        treeFault("ga1", 2);
        treeFault("gAb", 1);
        treeFault("a ;", 2);
        treeFault("e" + (char) 129, 1);
        treeFault(full + "a", 31);
        treeFault("e".repeat(31) + "a", 31);
        treeFault("e".repeat(31) + " a", 32);
        treeFault("e".repeat(31), 31);
        treeFault("e".repeat(31) + "!", 31);
    }

    private static void rules() {
        TreeBecomes x = Due.made("d 5;f 4 3;h 0 1 2;h 0 1 2;good 2;", "");
        int none = TreeBecomes.NONE;
        int[][] due = {{3, none, none, 5, 1}, {5, 4, none, 3, 1}, {7, 0, 1, 2, 1}, {7, 0, 1, 2, 1}};
        for (int k = 0; k < 4; k++) {
            for (int what = 0; what < 5; what++) {
                Due.same("rule " + k + " " + what, x.rule(k, what), due[k][what]);
            }
        }
        x.turn(2, 0);
        Due.same("rule is off", x.rule(2, 4), 0);
        Due.same("rule 3 is on", x.rule(3, 4), 1);
        Due.same("rule -1", x.rule(-1, 0), TreeBecomes.BAD);
        Due.same("rule 4", x.rule(4, 0), TreeBecomes.BAD);
        Due.same("rule 16", x.rule(16, 0), TreeBecomes.BAD);
        Due.same("rule least", x.rule(Integer.MIN_VALUE, 0), TreeBecomes.BAD);
        Due.same("rule what -1", x.rule(0, -1), TreeBecomes.BAD);
        Due.same("rule what 5", x.rule(0, 5), TreeBecomes.BAD);
    }

    private static void turning() {
        TreeBecomes x = Due.made(PARITY, "b");
        Due.same("good", x.isGood(), 1);
        Due.same("turn off", x.turn(1, 0), 1);
        Due.same("turn off again", x.turn(1, 0), 0);
        Due.same("no more good", x.isGood(), 0);
        Due.same("on", x.count(1), 7);
        Due.same("turn on", x.turn(1, 1), 0);
        Due.same("turn on again", x.turn(1, 1), 1);
        Due.same("good again", x.isGood(), 1);
        Due.same("turn 8", x.turn(8, 1), TreeBecomes.BAD);
        Due.same("turn -1", x.turn(-1, 1), TreeBecomes.BAD);
        Due.same("turn to 2", x.turn(0, 2), TreeBecomes.BAD);
        Due.same("turn to -1", x.turn(0, -1), TreeBecomes.BAD);
        Due.same("on", x.count(1), 8);
    }

    private static void goods() {
        TreeBecomes x = Due.made(PARITY, "a");
        Due.same("good 0", x.good(0, 1), 0);
        Due.same("good 0 again", x.good(0, 1), 1);
        Due.same("bits", x.count(2), 3);
        Due.same("tree is good", x.isGood(), 1);
        Due.same("good 5", x.good(5, 1), 0);
        Due.same("not good 1", x.good(1, 0), 1);
        Due.same("bits", x.count(2), 33);
        Due.same("good 6", x.good(6, 1), TreeBecomes.BAD);
        Due.same("good -1", x.good(-1, 1), TreeBecomes.BAD);
        Due.same("good to 2", x.good(0, 2), TreeBecomes.BAD);
        Due.same("good to -1", x.good(0, -1), TreeBecomes.BAD);
        Due.same("bits", x.count(2), 33);
    }

    private static void nodes() {
        TreeBecomes x = Due.made("a 0;a 1;b 1;e 0 4;g 4 1 2;g 4 1 3;", "gea b");
        int[][] due = {{6, 4, -9, 12}, {4, 2, 0, 16}, {0, 1, 1, 3}, {1, 1, 0, 2}};
        for (int i = 0; i < 4; i++) {
            for (int what = 0; what < 4; what++) {
                Due.same("node " + i + " " + what, x.node(i, what), due[i][what]);
            }
        }
        Due.same("node 4", x.node(4, 0), TreeBecomes.BAD);
        Due.same("node -1", x.node(-1, 0), TreeBecomes.BAD);
        Due.same("node what 4", x.node(0, 4), TreeBecomes.BAD);
        Due.same("node what -1", x.node(0, -1), TreeBecomes.BAD);
        Due.same("no tree", new TreeBecomes().node(0, 0), TreeBecomes.BAD);
    }

    private static void signs() {
        TreeBecomes x = Due.made(PARITY, "gea b");
        Due.same("sign 2", x.sign(2, 3), 0);
        Due.same("sign 1", x.sign(1, 5), 4);
        Due.same("sign 0", x.sign(0, 7), 6);
        Due.same("changed", Due.signsOfTree(x).equals("hfdb") ? 1 : 0, 1);
        Due.same("more arms", x.sign(1, 6), TreeBecomes.BAD);
        Due.same("fewer arms", x.sign(1, 0), TreeBecomes.BAD);
        Due.same("leaf with an arm", x.sign(2, 4), TreeBecomes.BAD);
        Due.same("sign 8", x.sign(0, 8), TreeBecomes.BAD);
        Due.same("sign -1", x.sign(2, -1), TreeBecomes.BAD);
        Due.same("node 4", x.sign(4, 0), TreeBecomes.BAD);
        Due.same("node -1", x.sign(-1, 0), TreeBecomes.BAD);
        Due.same("unchanged", Due.signsOfTree(x).equals("hfdb") ? 1 : 0, 1);
    }

    private static void exchanging() {
        TreeBecomes x = Due.made(PARITY, "ghabec");
        Due.same("exchange 0", x.exchange(0), 1);
        Due.same("signs", Due.signsOfTree(x).equals("gechab") ? 1 : 0, 1);
        int[] over = {-9, 0, 1, 0, 3, 3};
        int[] part = {6, 2, 1, 3, 1, 1};
        for (int i = 0; i < 6; i++) {
            Due.same("over " + i, x.node(i, 2), over[i]);
            Due.same("part " + i, x.node(i, 1), part[i]);
        }
        Due.same("exchange 3", x.exchange(3), 1);
        Due.same("signs", Due.signsOfTree(x).equals("gechba") ? 1 : 0, 1);
        Due.same("one arm", x.exchange(1), TreeBecomes.STATE);
        Due.same("no arm", x.exchange(2), TreeBecomes.STATE);
        Due.same("no node", x.exchange(6), TreeBecomes.BAD);
        Due.same("node -1", x.exchange(-1), TreeBecomes.BAD);
        Due.same("no tree", new TreeBecomes().exchange(0), TreeBecomes.BAD);
    }

    private static void goodTrees() {
        TreeBecomes x = Due.made(PARITY, "");
        Due.same("no tree", x.isGood(), TreeBecomes.STATE);
        String[] trees = {"a", "b", "gab", "gbb", "ea", "eb", "c", "gca", "hab"};
        int[] due = {0, 1, 1, 0, 1, 0, 0, 0, 0};
        for (int k = 0; k < trees.length; k++) {
            Due.tree(x, trees[k]);
            Due.same("isGood " + trees[k], x.isGood(), due[k]);
        }
    }

    private static void runs() {
        TreeBecomes x = Due.made("a 0;a 0;a 1;g 0 0 0;g 0 1 0;good 0 1;", "");
        Due.same("no tree", x.runs(), TreeBecomes.STATE);
        Due.tree(x, "a");
        Due.same("told again counts again", x.runs(), 3);
        Due.tree(x, "gaa");
        Due.same("pairs", x.runs(), 6);
        x.turn(0, 0);
        Due.same("off does not count", x.runs(), 2);
        x.turn(0, 1);
        Due.tree(x, "g".repeat(15) + "a".repeat(16));
        Due.same("left over", x.runs(), 2L * power(3, 15) % 1000003);
        Due.tree(x, "b");
        Due.same("no way", x.runs(), 0);
        TreeBecomes z = Due.made("a 0;a 0;a 1;e 0 2;e 0 2;e 1 2;f 2 3;good 3;", "fea");
        Due.same("one arm", z.runs(), 5);
        z.good(2, 1);
        z.good(3, 0);
        Due.same("node 0 becomes another one", z.runs(), 0);
        TreeBecomes y = Due.made("a 0;a 0;g 0 0 0;good 0;", "g".repeat(15) + "a".repeat(16));
        Due.same("2 to 16", y.runs(), 65536);
    }

    private static long power(long base, int n) {
        long all = 1;
        for (int k = 0; k < n; k++) {
            all *= base;
        }
        return all;
    }

    private static void places() {
        TreeBecomes x = Due.made(PARITY, "");
        Due.same("no tree", x.places(0), 0);
        Due.same("state 6", x.places(6), TreeBecomes.BAD);
        Due.same("state -1", x.places(-1), TreeBecomes.BAD);
        Due.tree(x, "ggabea");
        Due.same("places 0", x.places(0), 1 | 4 | 32);
        Due.same("places 1", x.places(1), 2 | 8 | 16);
        Due.same("places 5", x.places(5), 0);
        Due.tree(x, "g".repeat(15) + "a".repeat(16));
        Due.same("31 places", x.places(0), 0x7fffffff);
    }

    private static void mend(String law, String tree, int changes, String due) {
        TreeBecomes x = Due.made(law, tree);
        Due.same("mend " + tree, x.mend(-1), changes);
        Due.holds("mended " + tree + " to " + Due.mended(x), Due.mended(x).equals(due));
        Due.holds("mend leaves " + tree, Due.signsOfTree(x).equals(tree));
    }

    private static void mending() {
        TreeBecomes x = Due.made(PARITY, "");
        Due.same("no tree", x.mend(-1), TreeBecomes.STATE);
        Due.same("no node", x.mend(0), TreeBecomes.BAD);
        Due.same("-2", x.mend(-2), TreeBecomes.BAD);
        mend(PARITY, "gab", 0, "gab");
        mend(PARITY, "gaa", 1, "gab");
        mend(PARITY, "gbb", 1, "gab");
        mend(PARITY, "hbb", 2, "gab");
        mend(PARITY, "hcd", 3, "gab");
        mend(PARITY, "fc", 2, "ea");
        mend("b 0;c 0;e 0 0;f 0 1;h 0 1 2;good 2;", "gdea", 4, "hbfb");
        mend("a 0;b 1;g 0 1 2;h 1 0 2;good 2;", "gbb", 1, "gab");
        mend("a 0;b 1;g 1 1 2;h 1 0 2;good 2;", "gaa", 2, "gbb");
        mend("d 0;c 0;good 0;", "a", 1, "c");
        mend("d 0;c 1;e 1 2;f 0 2;good 2;", "ea", 1, "ec");
        mend("b 0;a 1;good 0 1;", "c", 1, "a");
        mend("a 0;b 1;good 0 1;", "c", 1, "a");
        mend("a 0;e 0 0;b 1;e 1 1;good 0 1;", "fb", 1, "eb");
        mend("b 0;e 0 0;a 1;e 1 1;good 0 1;", "fb", 1, "eb");
        TreeBecomes y = Due.made("a 0;e 0 1;good 1;", "gaa");
        Due.same("no way", y.mend(-1), TreeBecomes.NONE);
        Due.same("no way 2", y.mend(2), TreeBecomes.NONE);
        Due.same("node 3", y.mend(3), TreeBecomes.BAD);
        mend("d 5;h 5 5 5;good 5;", "g".repeat(15) + "a".repeat(16), 31, "h".repeat(15) + "d".repeat(16));
    }

    private static void sets() {
        Due.same("parity", Due.made(PARITY, "").sets(), 3);
        Due.same("one and none", Due.made("a 0;", "").sets(), 2);
        Due.same("all leaves the same", Due.made("a 0;b 0;c 0;d 0;e 0 0;f 0 0;g 0 0 0;h 0 0 0;", "").sets(), 1);
        TreeBecomes x = Due.made("a 0;a 1;b 1;e 0 1;e 1 2;", "");
        Due.same("chain", x.sets(), 5);
        x.turn(1, 0);
        Due.same("chain with a rule off", x.sets(), 4);
        x.turn(1, 1);
        Due.same("chain again", x.sets(), 5);
    }

    private static void classes() {
        TreeBecomes x = Due.made(PARITY, "");
        Due.same("parity", x.classes(), 3);
        x.good(1, 0);
        Due.same("nothing is good", x.classes(), 1);
        TreeBecomes y = Due.made("a 0;b 1;e 0 2;e 1 2;good 2;", "");
        Due.same("sets", y.sets(), 4);
        Due.same("a and b are alike", y.classes(), 3);
        y.good(0, 1);
        Due.same("a is good", y.classes(), 4);
        TreeBecomes z = Due.made("a 0;b 1;g 0 1 2;g 1 1 2;good 2;", "");
        Due.same("places differ", z.classes(), 4);
    }

    private static void useful() {
        TreeBecomes x = Due.made("a 0;b 1;e 0 2;f 3 4;g 1 5 2;g 4 4 4;good 2 4;", "");
        Due.same("useful", x.useful(), 1 | 4);
        x.turn(2, 0);
        Due.same("nothing useful", x.useful(), 0);
        x.good(1, 1);
        Due.same("a good state is useful", x.useful(), 2);
        Due.same("chain", Due.made("e 4 5;e 3 4;e 2 3;e 1 2;e 0 1;a 0;good 5;", "").useful(), 63);
        Due.same("an arm that no tree comes to", Due.made("a 0;b 1;g 0 1 2;g 0 3 2;good 2;", "").useful(), 7);
    }

    private static void least() {
        TreeBecomes x = Due.made("b 0;c 0;g 0 0 1;h 0 0 1;e 1 2;f 1 2;good 2;", "");
        Due.holds("least", Due.least(x).equals("egbb"));
        Due.same("least -1", x.least(-1), 4);
        Due.same("least 4", x.least(4), -5);
        Due.same("least 30", x.least(30), -5);
        Due.same("least -2", x.least(-2), TreeBecomes.BAD);
        x.good(2, 0);
        Due.same("none", x.least(-1), TreeBecomes.NONE);
        Due.same("none 0", x.least(0), TreeBecomes.NONE);
        Due.same("none BAD", x.least(-2), TreeBecomes.BAD);
        TreeBecomes y = Due.made("a 0;g 0 0 1;g 1 1 2;g 2 2 3;g 3 3 4;e 4 5;good 4;", "");
        Due.same("31 signs", y.least(-1), 31);
        Due.same("its last", y.least(30), 0);
        Due.same("31st is none", y.least(31), -5);
        y.good(4, 0);
        y.good(5, 1);
        Due.same("32 signs are too many", y.least(-1), TreeBecomes.NONE);
        Due.holds("second arm a", Due.least(Due.made("a 0;b 1;g 1 0 2;good 2;", "")).equals("gba"));
        TreeBecomes z = Due.made("a 0;b 1;c 2;e 0 3;g 1 1 4;h 3 2 5;g 2 3 5;good 5;", "");
        Due.holds("first of two", Due.least(z).equals("gcea"));
    }

    private static void many() {
        TreeBecomes x = Due.made("a 0;b 0;c 0;d 0;e 0 0;f 0 0;g 0 0 0;h 0 0 0;a 0;good 0;", "");
        long[] all = new long[16];
        for (int n = 1; n <= 15; n++) {
            all[n] = n == 1 ? 4 : 2 * all[n - 1];
            for (int k = 1; k < n - 1; k++) {
                all[n] += 2 * all[k] * all[n - 1 - k];
            }
            Due.same("all trees of " + n, x.many(n), all[n]);
        }
        Due.same("many 0", x.many(0), TreeBecomes.BAD);
        Due.same("many 16", x.many(16), TreeBecomes.BAD);
        Due.same("many -1", x.many(-1), TreeBecomes.BAD);
        x.turn(5, 0);
        Due.same("without f", x.many(2), 4);
        x.good(0, 0);
        Due.same("nothing good", x.many(1), 0);
    }

    private static void twoLaws() {
        TreeBecomes x = Due.made(PARITY, "");
        Due.same("alike STATE", x.alike(0), TreeBecomes.STATE);
        Due.same("alike 2", x.alike(2), TreeBecomes.BAD);
        Due.same("alike -1", x.alike(-1), TreeBecomes.BAD);
        Due.same("apart 2", x.apart(2, -1), TreeBecomes.BAD);
        Due.same("apart BAD ahead of STATE", x.apart(0, -2), TreeBecomes.BAD);
        Due.same("apart STATE", x.apart(0, 3), TreeBecomes.STATE);
        Due.same("both 2", x.both(2, 1), TreeBecomes.BAD);
        Due.same("both BAD ahead of STATE", x.both(0, 16), TreeBecomes.BAD);
        Due.same("both 0", x.both(0, 0), TreeBecomes.BAD);
        Due.same("both STATE", x.both(0, 15), TreeBecomes.STATE);
        x.keep(0);
        Due.same("alike", x.alike(0), 1);
        Due.same("not apart", x.apart(0, -1), TreeBecomes.NONE);
        Due.same("not apart 0", x.apart(0, 0), TreeBecomes.NONE);
        Due.same("both is many", x.both(0, 9), x.many(9));
        Due.same("other image", x.alike(1), TreeBecomes.STATE);
        x.turn(7, 0);
        Due.same("no more alike", x.alike(0), 0);
        Due.holds("apart", Due.apart(x, 0).equals("eeb"));
        Due.same("not so many", x.apart(0, 3), -5);
        x.turn(7, 1);
        x.good(0, 1);
        Due.same("not alike: a", x.apart(0, 0), 0);
        Due.same("both", x.both(0, 1), 1);
        TreeBecomes y = Due.made("a 0;g 0 0 1;g 1 1 2;g 2 2 3;g 3 3 4;e 4 5;good 5;", "");
        y.keep(1);
        y.turn(5, 0);
        Due.same("32 signs tell them apart", y.alike(1), 0);
        Due.same("but are too many", y.apart(1, -1), TreeBecomes.NONE);
        y.turn(4, 0);
        y.good(4, 1);
        Due.same("good only here", y.alike(1), 0);
        y.turn(4, 1);
        Due.same("31 signs", y.apart(1, -1), 31);
    }

    private static void tooManyPairs() {
        TreeBecomes told = PairLaws.MOST_TOLD.make();
        told.good(1, 1);
        Due.same("120 pairs are told", told.alike(0), 0);
        Due.same("120 pairs apart", told.apart(0, -1), 1);
        Due.same("120 pairs both", told.both(0, 3), 0);
        for (PairLaws laws : new PairLaws[] {PairLaws.ONE_TOO_MANY, PairLaws.FAR_TOO_MANY}) {
            TreeBecomes x = laws.make();
            Due.same("alike FULL", x.alike(0), TreeBecomes.FULL);
            Due.same("apart FULL", x.apart(0, -1), TreeBecomes.FULL);
            Due.same("apart BAD ahead of FULL", x.apart(0, -2), TreeBecomes.BAD);
            Due.same("both FULL", x.both(0, 3), TreeBecomes.FULL);
            Due.same("both BAD ahead of FULL", x.both(0, 0), TreeBecomes.BAD);
            Due.holds("sets are told", x.sets() > 1);
            Due.same("still FULL", x.alike(0), TreeBecomes.FULL);
            Due.same("STATE ahead of FULL", x.alike(1), TreeBecomes.STATE);
            x.back(0);
            Due.same("with itself it is told", x.alike(0), 1);
        }
    }

    private static void marks() {
        TreeBecomes x = Due.made("a 0;a 1;b 1;e 0 4;g 4 1 2;g 4 1 3;", "geab");
        int[] due = {4, 8, 10, 10, 8, 4};
        long[] trace = {1, 11, 101, 1011, 10101, 100001};
        long all = 0;
        for (int kind = 0; kind < 6; kind++) {
            Due.same("mark " + kind, x.mark(kind, 0), due[kind]);
            all += trace[kind];
            Due.same("trace " + kind, x.trace(), all);
        }
        Due.same("root 3", x.mark(5, 3), 4);
        Due.same("bud 2", x.mark(4, 2), -1);
        Due.same("fork 1", x.mark(3, 1), 5);
        Due.same("leaf 3", x.mark(2, 3), 2);
        all += 100001 + 10101 + 1011 + 101;
        Due.same("mark 6", x.mark(6, 0), TreeBecomes.NO);
        Due.same("mark -1", x.mark(-1, 0), TreeBecomes.NO);
        Due.same("node 4", x.mark(0, 4), TreeBecomes.NO);
        Due.same("node -1", x.mark(0, -1), TreeBecomes.NO);
        Due.same("no tree", new TreeBecomes().mark(0, 0), TreeBecomes.NO);
        Due.same("trace", x.trace(), all);
        x.keep(0);
        x.mark(0, 0);
        x.back(0);
        Due.same("images do not keep the trace", x.trace(), all + 1);
    }

    private static void images() {
        TreeBecomes x = Due.made(PARITY, "gab");
        Due.same("keep 2", x.keep(2), TreeBecomes.BAD);
        Due.same("keep -1", x.keep(-1), TreeBecomes.BAD);
        Due.same("back 2", x.back(2), TreeBecomes.BAD);
        Due.same("back -1", x.back(-1), TreeBecomes.BAD);
        Due.same("back STATE", x.back(1), TreeBecomes.STATE);
        Due.same("keep 0", x.keep(0), 8);
        x.turn(0, 0);
        x.turn(3, 0);
        x.good(4, 1);
        x.exchange(0);
        Due.same("keep 1", x.keep(1), 6);
        Due.tree(x, "eeeb");
        Due.type(x, "abc");
        Due.same("back 0", x.back(0), 8);
        Due.same("on", x.count(1), 8);
        Due.same("good", x.count(2), 2);
        Due.holds("tree", Due.signsOfTree(x).equals("gab"));
        Due.same("over", x.node(2, 2), 0);
        Due.same("the text is not kept", x.count(4), 3);
        x.sign(1, 3);
        Due.same("back 1", x.back(1), 6);
        Due.same("good", x.count(2), 18);
        Due.holds("tree", Due.signsOfTree(x).equals("gba"));
        Due.same("back 0 again", x.back(0), 8);
        Due.holds("the image stands by itself", Due.signsOfTree(x).equals("gab"));
        TreeBecomes y = new TreeBecomes();
        Due.same("keep nothing", y.keep(1), 0);
        Due.tree(y, "a");
        Due.same("back to nothing", y.back(1), 0);
        Due.same("no tree", y.isGood(), TreeBecomes.STATE);
    }

    private static void counts() {
        TreeBecomes x = Due.made(PARITY, "gab");
        x.turn(0, 0);
        Due.type(x, "xyz");
        int[] due = {8, 7, 2, 3, 3};
        for (int what = 0; what < 5; what++) {
            Due.same("count " + what, x.count(what), due[what]);
        }
        Due.same("count 5", x.count(5), TreeBecomes.BAD);
        Due.same("count -1", x.count(-1), TreeBecomes.BAD);
    }
}
