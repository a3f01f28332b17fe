/** The calls of the document's face, numbered as they stand there; behind them, three of them asked another way. */
final class Calls {
    static final int ALL = 30;
    /** Those before it change the text, the law or the tree. */
    static final int READS = 4;

    private Calls() {
    }

    static long ask(TreeBecomes x, int call) {
        switch (call) {
            case 0: return x.type(0x676162L, 3);
            case 1: return x.clear();
            case 2: return x.law();
            case 3: return x.tree();
            case 4: return x.rule(0, 0);
            case 5: return x.turn(3, 0);
            case 6: return x.good(2, 1);
            case 7: return x.node(0, 3);
            case 8: return x.sign(1, 2);
            case 9: return x.exchange(0);
            case 10: return x.isGood();
            case 11: return x.runs();
            case 12: return x.places(1);
            case 13: return x.mend(-1);
            case 14: return x.sets();
            case 15: return x.classes();
            case 16: return x.useful();
            case 17: return x.least(-1);
            case 18: return x.many(15);
            case 19: return x.alike(0);
            case 20: return x.apart(0, -1);
            case 21: return x.both(0, 15);
            case 22: return x.mark(4, 1);
            case 23: return x.keep(1);
            case 24: return x.back(0);
            case 25: return x.count(1);
            case 26: return x.trace();
            case 27: return x.mend(1);
            case 28: return x.least(1);
            default: return x.apart(0, 1);
        }
    }
}
