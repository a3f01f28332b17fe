/** Helps the tests: counts answers that are not as due, and types whole texts. */
final class Due {
    private static int wrong = 0;
    private static int asked = 0;
    private static String test = "";

    private Due() {
    }

    static void same(String what, long got, long want) {
        asked++;
        if (got != want) {
            wrong++;
            if (wrong <= 40) {
                System.out.println(test + what + " answered " + got + ", due is " + want);
            }
        }
    }

    /** What is asked from here on belongs to this test. */
    static void begin(String name) {
        test = name + ": ";
    }

    static int asked() {
        return asked;
    }

    static void holds(String what, boolean is) {
        same(what, is ? 1 : 0, 1);
    }

    /** By how many calls. */
    static int type(TreeBecomes x, String text) {
        int calls = 0;
        for (int at = 0; at < text.length(); at += 8) {
            String piece = text.substring(at, Math.min(at + 8, text.length()));
            long v = 0;
            for (int k = 0; k < piece.length(); k++) {
                v = v << 8 | piece.charAt(k);
            }
            x.type(v, piece.length());
            calls++;
        }
        return calls;
    }

    /** The text becomes this one. */
    static void text(TreeBecomes x, String text) {
        x.clear();
        type(x, text);
    }

    static int law(TreeBecomes x, String text) {
        text(x, text);
        return x.law();
    }

    static int tree(TreeBecomes x, String text) {
        text(x, text);
        return x.tree();
    }

    /** A new object with this law and, unless it is empty, this tree. */
    static TreeBecomes made(String law, String tree) {
        TreeBecomes x = new TreeBecomes();
        same("law " + law, law(x, law) >= 0 ? 1 : 0, 1);
        if (!tree.isEmpty()) {
            same("tree " + tree, tree(x, tree) >= 0 ? 1 : 0, 1);
        }
        return x;
    }

    static String signsOfTree(TreeBecomes x) {
        StringBuilder b = new StringBuilder();
        for (int i = 0; i < x.count(3); i++) {
            b.append((char) ('a' + x.node(i, 0)));
        }
        return b.toString();
    }

    static String least(TreeBecomes x) {
        StringBuilder b = new StringBuilder();
        for (int i = 0; i < x.least(-1); i++) {
            b.append((char) ('a' + x.least(i)));
        }
        return b.toString();
    }

    static String apart(TreeBecomes x, int image) {
        StringBuilder b = new StringBuilder();
        for (int i = 0; i < x.apart(image, -1); i++) {
            b.append((char) ('a' + x.apart(image, i)));
        }
        return b.toString();
    }

    static String mended(TreeBecomes x) {
        StringBuilder b = new StringBuilder();
        for (int i = 0; i < x.count(3) && x.mend(-1) >= 0; i++) {
            b.append((char) ('a' + x.mend(i)));
        }
        return b.toString();
    }

    static void finish(String name) {
        System.out.println(name + ": " + asked + " answers, " + wrong + " not as due");
        if (wrong != 0 || asked == 0) {
            System.exit(1);
        }
    }
}
