/** Laws with two choices of rules that come to just so many pairs of sets; found by a search. */
enum PairLaws {
    MOST_TOLD(120, "d 1;d 5;f 1 4;f 5 3;h 3 0 5;e 3 3;e 2 2;e 4 1;g 3 5 4;e 1 5;e 5 0;f 3 2;g 4 2 1;e 5 4;"
        + "f 3 1;h 0 2 1;", 65263, 36863),
    ONE_TOO_MANY(121, "g 1 4 0;h 1 4 2;h 2 1 1;f 1 3;h 3 4 4;f 2 3;f 0 2;f 2 0;d 1;e 4 0;f 2 1;d 4;f 4 2;e 2 4;"
        + "f 0 5;f 1 4;", 64767, 65311),
    /** The 121st is found only over the tree that is the greatest of the 120 others' least ones. */
    ONE_TOO_MANY_AT_LAST(121, "f 1 2;f 0 1;e 5 1;e 1 3;e 3 4;f 3 3;e 5 0;f 5 4;f 4 5;e 4 5;f 4 1;d 1;e 3 5;e 1 2;"
        + "f 2 3;f 1 1;", 60317, 63978),
    FAR_TOO_MANY(200, "d 1;d 5;f 1 4;f 5 3;b 4;e 3 3;e 0 4;e 4 1;e 5 5;e 1 5;e 5 0;f 3 2;a 4;e 5 4;f 3 1;f 0 2;",
        63231, 8191);

    final int pairs;
    final String law;
    final int kept;
    final int then;

    PairLaws(int pairs, String law, int kept, int then) {
        this.pairs = pairs;
        this.law = law;
        this.kept = kept;
        this.then = then;
    }

    TreeBecomes make() {
        return make(0);
    }

    /** The image keeps the one choice; the other one is on. */
    TreeBecomes make(int image) {
        TreeBecomes x = Due.made(law, "");
        turnTo(x, kept);
        x.keep(image);
        turnTo(x, then);
        return x;
    }

    static void turnTo(TreeBecomes x, int bits) {
        int rules = x.count(0);
        for (int k = 0; k < rules; k++) {
            x.turn(k, bits >> k & 1);
        }
    }
}
