/**
 * What a tree may be: rules by which a tree of signs becomes a state from its arms up.
 * The promises are told in shared/DOC.md; the part of Java used here in shared/LANGUAGE.md.
 */
public final class TreeBecomes {
    public static final int BAD = -1, STATE = -2, FULL = -3, NONE = -9;
    public static final int NO = -1000000;

    private static final int SIGNS = 8;
    /** The signs below this have no arm. */
    private static final int LEAVES = 4;
    private static final int STATES = 6;
    private static final int MOST_RULES = 16;
    private static final int MOST_NODES = 31;
    private static final int MOST_BYTES = 300;
    private static final int MOST_COUNTED = 15;
    private static final int IMAGES = 2;
    private static final int NOT_SO_MANY = -5;
    private static final int FAULTS = -10;
    private static final int REMAINDER = 1000003;

    private static final int NODE = 0, BRANCH = 1, LEAF = 2, FORK = 3, BUD = 4, ROOT = 5;

    private final Text text = new Text();
    private final Image[] images = new Image[IMAGES];
    private final Climb climb = new Climb();
    private final Pairs pairs = new Pairs();
    private Law rules = new Law();
    private Law spareRules = new Law();
    private Tree nodes = new Tree();
    private Tree spareNodes = new Tree();
    private int on;
    private int goods;
    private long asked;

    public TreeBecomes() {
        for (int k = 0; k < IMAGES; k++) {
            images[k] = new Image();
        }
    }

    // ---- laws and trees

    public int type(long v, int n) {
        if (n < 1 || n > 8) {
            return BAD;
        }
        if (text.length + n > MOST_BYTES) {
            return FULL;
        }
        for (int k = n - 1; k >= 0; k--) {
            text.put((int) (v >> (8 * k)) & 255);
        }
        return text.length;
    }

    public int clear() {
        int had = text.length;
        text.length = 0;
        return had;
    }

    public int law() {
        int items = spareRules.read(text);
        if (items < 0) {
            return items;
        }
        Law old = rules;
        rules = spareRules;
        spareRules = old;
        text.length = 0;
        on = rules.allOn();
        goods = rules.toldGood;
        for (int k = 0; k < IMAGES; k++) {
            images[k].kept = false;
        }
        pairs.forget();
        return items;
    }

    public int tree() {
        int signs = spareNodes.read(text);
        if (signs < 0) {
            return signs;
        }
        Tree old = nodes;
        nodes = spareNodes;
        spareNodes = old;
        text.length = 0;
        return signs;
    }

    public int rule(int k, int what) {
        if (!rules.has(k)) {
            return BAD;
        }
        switch (what) {
            case 0: return rules.sign[k];
            case 1: return rules.first[k];
            case 2: return rules.second[k];
            case 3: return rules.result[k];
            case 4: return bit(on, k);
            default: return BAD;
        }
    }

    public int turn(int k, int on) {
        if (!rules.has(k) || !isBit(on)) {
            return BAD;
        }
        int was = bit(this.on, k);
        this.on = withBit(this.on, k, on);
        return was;
    }

    public int good(int state, int is) {
        if (!isState(state) || !isBit(is)) {
            return BAD;
        }
        int was = bit(goods, state);
        goods = withBit(goods, state, is);
        return was;
    }

    public int node(int i, int what) {
        if (!nodes.has(i)) {
            return BAD;
        }
        switch (what) {
            case 0: return nodes.sign[i];
            case 1: return nodes.part[i];
            case 2: return nodes.over[i];
            case 3: return comesTo(i);
            default: return BAD;
        }
    }

    public int sign(int i, int its) {
        if (!nodes.has(i) || its < 0 || its >= SIGNS || armsOf(its) != armsOf(nodes.sign[i])) {
            return BAD;
        }
        int was = nodes.sign[i];
        nodes.sign[i] = its;
        return was;
    }

    public int exchange(int i) {
        if (!nodes.has(i)) {
            return BAD;
        }
        if (armsOf(nodes.sign[i]) != 2) {
            return STATE;
        }
        nodes.swapArms(i);
        return 1;
    }

    // ---- the tree

    public int isGood() {
        if (nodes.many == 0) {
            return STATE;
        }
        return (comesTo(0) & goods) != 0 ? 1 : 0;
    }

    public int runs() {
        if (nodes.many == 0) {
            return STATE;
        }
        climb.countWays(nodes, rules, on);
        return climb.goodWays(goods);
    }

    public int places(int state) {
        if (!isState(state)) {
            return BAD;
        }
        climb.come(nodes, rules, on);
        int found = 0;
        for (int v = 0; v < nodes.many; v++) {
            found |= bit(climb.comes[v], state) << v;
        }
        return found;
    }

    public int mend(int i) {
        if (i != -1 && !nodes.has(i)) {
            return BAD;
        }
        if (nodes.many == 0) {
            return STATE;
        }
        climb.weighChanges(nodes, rules, on);
        int state = climb.cheapestOf(goods);
        if (!isState(state)) {
            return NONE;
        }
        if (i == -1) {
            return climb.cost[state];
        }
        return firstSignWith(armsOf(nodes.sign[i])) + Climb.stepInCode(climb.code[state], i);
    }

    // ---- all trees

    public int sets() {
        return pairsWith(0).many;
    }

    public int classes() {
        Pairs alone = pairsWith(0);
        return alone.kin.countKinds(alone, goods);
    }

    public int useful() {
        return rules.usefulStates(on, goods);
    }

    public int least(int i) {
        if (i < -1) {
            return BAD;
        }
        // Beside a law of no rules, good by just one is good by this one.
        Pairs alone = pairsWith(0);
        return alone.tellTree(alone.leastApart(goods, 0), i);
    }

    public long many(int n) {
        if (!isCounted(n)) {
            return BAD;
        }
        Pairs alone = pairsWith(0);
        long all = 0;
        for (int p = 0; p < alone.many; p++) {
            if (alone.isGoodHere(p, goods)) {
                all += alone.tally.treesOf(alone, p, n);
            }
        }
        return all;
    }

    // ---- two laws

    public int alike(int image) {
        int refused = refusalOf(image);
        if (refused != 0) {
            return refused;
        }
        Pairs two = pairsWith(images[image].on);
        if (two.full) {
            return FULL;
        }
        for (int p = 0; p < two.many; p++) {
            if (two.isApart(p, goods, images[image].goods)) {
                return 0;
            }
        }
        return 1;
    }

    public int apart(int image, int i) {
        int refused = i < -1 ? BAD : refusalOf(image);
        if (refused != 0) {
            return refused;
        }
        Pairs two = pairsWith(images[image].on);
        if (two.full) {
            return FULL;
        }
        return two.tellTree(two.leastApart(goods, images[image].goods), i);
    }

    public long both(int image, int n) {
        int refused = isCounted(n) ? refusalOf(image) : BAD;
        if (refused != 0) {
            return refused;
        }
        Pairs two = pairsWith(images[image].on);
        if (two.full) {
            return FULL;
        }
        long all = 0;
        for (int p = 0; p < two.many; p++) {
            if (two.isGoodHere(p, goods) && two.isGoodThere(p, images[image].goods)) {
                all += two.tally.treesOf(two, p, n);
            }
        }
        return all;
    }

    // ---- kinds, images

    public int mark(int kind, int i) {
        if (kind < NODE || kind > ROOT || !nodes.has(i)) {
            return NO;
        }
        return worthAs(kind, i);
    }

    public int keep(int image) {
        if (!isImage(image)) {
            return BAD;
        }
        Image kept = images[image];
        kept.kept = true;
        kept.on = on;
        kept.goods = goods;
        kept.nodes.copyFrom(nodes);
        return Integer.bitCount(on);
    }

    public int back(int image) {
        int refused = refusalOf(image);
        if (refused != 0) {
            return refused;
        }
        Image kept = images[image];
        on = kept.on;
        goods = kept.goods;
        nodes.copyFrom(kept.nodes);
        return Integer.bitCount(on);
    }

    public int count(int what) {
        switch (what) {
            case 0: return rules.many;
            case 1: return Integer.bitCount(on);
            case 2: return goods;
            case 3: return nodes.many;
            case 4: return text.length;
            default: return BAD;
        }
    }

    public long trace() {
        return asked;
    }

    // ---- help for the calls

    /** The body of a kind, which asks the body of the kind above it. */
    private int worthAs(int kind, int i) {
        switch (kind) {
            case BRANCH:
                asked += 10;
                return worthAs(NODE, i) * 2;
            case LEAF:
                asked += 100;
                return worthAs(NODE, i) + nodes.sign[i];
            case FORK:
                asked += 1000;
                return worthAs(BRANCH, i) + armsOf(nodes.sign[i]);
            case BUD:
                asked += 10000;
                return worthAs(LEAF, i) - Integer.bitCount(comesTo(i));
            case ROOT:
                asked += 100000;
                return worthAs(NODE, i) + i;
            default:
                asked += 1;
                return nodes.part[i];
        }
    }

    private int comesTo(int i) {
        climb.come(nodes, rules, on);
        return climb.comes[i];
    }

    private Pairs pairsWith(int otherOn) {
        pairs.learn(rules, on, otherOn);
        return pairs;
    }

    /** Why nothing can be told by an image: 0 if it can. */
    private int refusalOf(int image) {
        if (!isImage(image)) {
            return BAD;
        }
        return images[image].kept ? 0 : STATE;
    }

    private static boolean isImage(int image) {
        return image >= 0 && image < IMAGES;
    }

    private static boolean isCounted(int n) {
        return n >= 1 && n <= MOST_COUNTED;
    }

    private static boolean isState(int state) {
        return state >= 0 && state < STATES;
    }

    private static boolean isBit(int x) {
        return x == 0 || x == 1;
    }

    private static int bit(int bits, int k) {
        return bits >> k & 1;
    }

    private static int withBit(int bits, int k, int is) {
        return is == 1 ? bits | 1 << k : bits & ~(1 << k);
    }

    private static int armsOf(int sign) {
        return sign < LEAVES ? 0 : sign < 6 ? 1 : 2;
    }

    private static int firstSignWith(int arms) {
        return arms == 0 ? 0 : arms == 1 ? 4 : 6;
    }

    /** What an image keeps. */
    private static final class Image {
        boolean kept;
        int on;
        int goods;
        final Tree nodes = new Tree();
    }

    /** The text, and its reading as tokens of a law. */
    private static final class Text {
        static final int END = 0, SIGN = 1, GOOD = 2, NUMBER = 3, STOP = 4, WRONG = 5;
        static final int BLANK = 32;
        final int[] bytes = new int[MOST_BYTES];
        int length;
        /** Of the token read last: its first byte's place, its kind, its sign or number. */
        int place;
        int token;
        int value;
        private int ahead;

        void put(int b) {
            if (length < MOST_BYTES) {
                bytes[length] = b;
                length++;
            }
        }

        int byteAt(int k) {
            return k >= 0 && k < length && k < MOST_BYTES ? bytes[k] : -1;
        }

        void begin() {
            ahead = 0;
            next();
        }

        void next() {
            for (int k = 0; k < MOST_BYTES && byteAt(ahead) == BLANK; k++) {
                ahead++;
            }
            place = ahead;
            value = 0;
            int b = byteAt(ahead);
            if (b < 0) {
                token = END;
            } else if (isLetter(b)) {
                readWord();
            } else if (isDigit(b)) {
                readNumber();
            } else {
                token = b == ';' ? STOP : WRONG;
                ahead++;
            }
        }

        boolean isStateNext() {
            return token == NUMBER && isState(value);
        }

        private void readWord() {
            for (int k = 0; k < MOST_BYTES && isLetter(byteAt(ahead)); k++) {
                ahead++;
            }
            int letter = byteAt(place) - 'a';
            if (ahead - place == 1 && letter < SIGNS) {
                token = SIGN;
                value = letter;
            } else {
                token = isGoodWord() ? GOOD : WRONG;
            }
        }

        private boolean isGoodWord() {
            return ahead - place == 4 && byteAt(place) == 'g' && byteAt(place + 1) == 'o'
                && byteAt(place + 2) == 'o' && byteAt(place + 3) == 'd';
        }

        private void readNumber() {
            for (int k = 0; k < MOST_BYTES && isDigit(byteAt(ahead)); k++) {
                // Two digits are enough: longer ones are wrong whatever they come to.
                if (k < 2) {
                    value = value * 10 + byteAt(ahead) - '0';
                }
                ahead++;
            }
            int digits = ahead - place;
            boolean zeroAhead = digits > 1 && byteAt(place) == '0';
            token = digits > 2 || zeroAhead ? WRONG : NUMBER;
        }

        private static boolean isLetter(int b) {
            return b >= 'a' && b <= 'z';
        }

        private static boolean isDigit(int b) {
            return b >= '0' && b <= '9';
        }
    }

    /** The rules of a law, and the states that its text calls good. */
    private static final class Law {
        final int[] sign = new int[MOST_RULES];
        final int[] first = new int[MOST_RULES];
        final int[] second = new int[MOST_RULES];
        final int[] result = new int[MOST_RULES];
        int many;
        int toldGood;

        boolean has(int k) {
            return k >= 0 && k < many && k < MOST_RULES;
        }

        int allOn() {
            return (1 << many) - 1;
        }

        /** How many items, or the fault as law() tells it; what is read half is of no use. */
        int read(Text text) {
            many = 0;
            toldGood = 0;
            text.begin();
            int items = 0;
            for (int k = 0; k < MOST_BYTES && text.token != Text.END; k++) {
                if (!readItem(text) || text.token != Text.STOP) {
                    return FAULTS - text.place;
                }
                text.next();
                items++;
            }
            return items;
        }

        /** An item as far as its end, which is left to read. */
        private boolean readItem(Text text) {
            if (text.token == Text.SIGN) {
                return many < MOST_RULES && readRule(text);
            }
            return text.token == Text.GOOD && readGood(text);
        }

        private boolean readRule(Text text) {
            int k = many;
            int its = text.value;
            sign[k] = its;
            first[k] = NONE;
            second[k] = NONE;
            text.next();
            if (armsOf(its) > 0) {
                if (!text.isStateNext()) {
                    return false;
                }
                first[k] = text.value;
                text.next();
            }
            if (armsOf(its) > 1) {
                if (!text.isStateNext()) {
                    return false;
                }
                second[k] = text.value;
                text.next();
            }
            if (!text.isStateNext()) {
                return false;
            }
            result[k] = text.value;
            text.next();
            many++;
            return true;
        }

        private boolean readGood(Text text) {
            text.next();
            if (!text.isStateNext()) {
                return false;
            }
            for (int k = 0; k < MOST_BYTES && text.isStateNext(); k++) {
                toldGood |= 1 << text.value;
                text.next();
            }
            return true;
        }

        void copyFrom(Law other) {
            many = other.many;
            toldGood = other.toldGood;
            for (int k = 0; k < MOST_RULES; k++) {
                sign[k] = other.sign[k];
                first[k] = other.first[k];
                second[k] = other.second[k];
                result[k] = other.result[k];
            }
        }

        /** Whether rule k can stand over arms that come to these states. */
        boolean fits(int k, int firstStates, int secondStates) {
            int arms = armsOf(sign[k]);
            return (arms < 1 || bit(firstStates, first[k]) == 1)
                && (arms < 2 || bit(secondStates, second[k]) == 1);
        }

        int outcomes(int its, int on, int firstStates, int secondStates) {
            int states = 0;
            for (int k = 0; k < many; k++) {
                if (bit(on, k) == 1 && sign[k] == its && fits(k, firstStates, secondStates)) {
                    states |= 1 << result[k];
                }
            }
            return states;
        }

        private int reachedStates(int on) {
            int reached = 0;
            for (int round = 0; round < STATES; round++) {
                for (int k = 0; k < many; k++) {
                    if (bit(on, k) == 1 && fits(k, reached, reached)) {
                        reached |= 1 << result[k];
                    }
                }
            }
            return reached;
        }

        int usefulStates(int on, int goods) {
            int reached = reachedStates(on);
            int found = reached & goods;
            for (int round = 0; round < STATES; round++) {
                for (int k = 0; k < many; k++) {
                    if (bit(on, k) == 1 && bit(found, result[k]) == 1 && fits(k, reached, reached)) {
                        found |= armStates(k);
                    }
                }
            }
            return found;
        }

        private int armStates(int k) {
            int arms = armsOf(sign[k]);
            int states = arms > 0 ? 1 << first[k] : 0;
            return arms > 1 ? states | 1 << second[k] : states;
        }
    }

    /** The nodes of a tree, numbered as its signs come: the first arm of i is i + 1. */
    private static final class Tree {
        final int[] sign = new int[MOST_NODES];
        final int[] part = new int[MOST_NODES];
        final int[] over = new int[MOST_NODES];
        private final int[] moved = new int[MOST_NODES];
        int many;

        boolean has(int i) {
            return i >= 0 && i < many && i < MOST_NODES;
        }

        /** How many signs, or the fault as tree() tells it; what is read half is of no use. */
        int read(Text text) {
            many = 0;
            int missing = 1;
            for (int k = 0; k < text.length; k++) {
                int b = text.byteAt(k);
                if (b == Text.BLANK) {
                    continue;
                }
                int its = b - 'a';
                if (its < 0 || its >= SIGNS || missing == 0 || many >= MOST_NODES) {
                    return FAULTS - k;
                }
                sign[many] = its;
                many++;
                missing += armsOf(its) - 1;
            }
            if (missing > 0) {
                return FAULTS - text.length;
            }
            settle();
            return many;
        }

        /** Parts and nodes over nodes, from the signs alone. */
        private void settle() {
            for (int i = many - 1; i >= 0; i--) {
                int arms = armsOf(sign[i]);
                int all = 1;
                int arm = i + 1;
                for (int a = 0; a < arms && has(arm); a++) {
                    over[arm] = i;
                    all += part[arm];
                    arm += part[arm];
                }
                part[i] = all;
            }
            over[0] = NONE;
        }

        int secondArm(int i) {
            return has(i + 1) ? i + 1 + part[i + 1] : many;
        }

        void swapArms(int i) {
            int from = i + 1;
            int middle = secondArm(i);
            int end = i + part[i];
            int k = 0;
            for (int v = middle; v < end && has(v); v++) {
                moved[k] = sign[v];
                k++;
            }
            for (int v = from; v < middle && has(v); v++) {
                moved[k] = sign[v];
                k++;
            }
            for (int j = 0; j < k && has(from + j); j++) {
                sign[from + j] = moved[j];
            }
            settle();
        }

        void copyFrom(Tree other) {
            many = other.many;
            for (int i = 0; i < MOST_NODES; i++) {
                sign[i] = other.sign[i];
                part[i] = other.part[i];
                over[i] = other.over[i];
            }
        }
    }

    /** What is told of each node from its arms up; rows of a node's states stand in one array. */
    private static final class Climb {
        static final int NEVER = 1000;
        final int[] comes = new int[MOST_NODES];
        final long[] ways = new long[MOST_NODES * STATES];
        /** The fewest changes by which a node becomes a state, and the first way to do so. */
        final int[] cost = new int[MOST_NODES * STATES];
        final long[] code = new long[MOST_NODES * STATES];

        void come(Tree tree, Law law, int on) {
            for (int i = tree.many - 1; i >= 0; i--) {
                comes[i] = law.outcomes(tree.sign[i], on,
                    comesOf(tree, i + 1), comesOf(tree, tree.secondArm(i)));
            }
        }

        private int comesOf(Tree tree, int i) {
            return tree.has(i) ? comes[i] : 0;
        }

        private static int placeOf(Tree tree, int i, int state) {
            return tree.has(i) && isState(state) ? i * STATES + state : -1;
        }

        void countWays(Tree tree, Law law, int on) {
            for (int i = tree.many - 1; i >= 0; i--) {
                for (int s = 0; s < STATES; s++) {
                    ways[i * STATES + s] = 0;
                }
                for (int k = 0; k < law.many; k++) {
                    if (bit(on, k) == 1 && law.sign[k] == tree.sign[i]) {
                        int place = i * STATES + law.result[k];
                        ways[place] = (ways[place] + waysBy(tree, law, i, k)) % REMAINDER;
                    }
                }
            }
        }

        private long waysBy(Tree tree, Law law, int i, int k) {
            int arms = armsOf(law.sign[k]);
            long found = 1;
            if (arms > 0) {
                int place = placeOf(tree, i + 1, law.first[k]);
                found = place < 0 ? 0 : ways[place];
            }
            if (arms > 1) {
                int place = placeOf(tree, tree.secondArm(i), law.second[k]);
                found = place < 0 ? 0 : found * ways[place] % REMAINDER;
            }
            return found;
        }

        int goodWays(int goods) {
            long all = 0;
            for (int s = 0; s < STATES; s++) {
                if (bit(goods, s) == 1) {
                    all += ways[s];
                }
            }
            return (int) (all % REMAINDER);
        }

        void weighChanges(Tree tree, Law law, int on) {
            for (int i = tree.many - 1; i >= 0; i--) {
                for (int s = 0; s < STATES; s++) {
                    cost[i * STATES + s] = NEVER;
                    code[i * STATES + s] = 0;
                }
                for (int k = 0; k < law.many; k++) {
                    if (bit(on, k) == 1 && armsOf(law.sign[k]) == armsOf(tree.sign[i])) {
                        weighRule(tree, law, i, k);
                    }
                }
            }
        }

        private void weighRule(Tree tree, Law law, int i, int k) {
            int arms = armsOf(law.sign[k]);
            int changes = law.sign[k] == tree.sign[i] ? 0 : 1;
            long way = codeOfStep(law.sign[k] - firstSignWith(arms), i);
            if (arms > 0) {
                int place = placeOf(tree, i + 1, law.first[k]);
                changes += place < 0 ? NEVER : cost[place];
                way |= place < 0 ? 0 : code[place];
            }
            if (arms > 1) {
                int place = placeOf(tree, tree.secondArm(i), law.second[k]);
                changes += place < 0 ? NEVER : cost[place];
                way |= place < 0 ? 0 : code[place];
            }
            int mine = i * STATES + law.result[k];
            if (changes < cost[mine] || changes < NEVER && changes == cost[mine] && way < code[mine]) {
                cost[mine] = changes;
                code[mine] = way;
            }
        }

        /** The good state that node 0 becomes by the cheapest and first way; NONE. */
        int cheapestOf(int goods) {
            int best = NONE;
            for (int s = 0; s < STATES; s++) {
                if (bit(goods, s) == 1 && cost[s] < NEVER && (best < 0 || isBetter(s, best))) {
                    best = s;
                }
            }
            return best;
        }

        private boolean isBetter(int a, int b) {
            return cost[a] < cost[b] || cost[a] == cost[b] && code[a] < code[b];
        }

        // Two bits a node, node 0 highest: so the less of two codes is the first of two ways.
        private static long codeOfStep(int step, int i) {
            return (long) step << 2 * (MOST_NODES - 1 - i);
        }

        static int stepInCode(long way, int i) {
            return (int) (way >> 2 * (MOST_NODES - 1 - i)) & 3;
        }
    }

    /**
     * All pairs of sets of states to which a tree comes by the rules on here and by those on there,
     * each with its least tree. A pair's bits: 0 .. 5 the states here, 6 .. 11 those there.
     * Rule bits: 0 .. 15 the rules here, 16 .. 31 those there.
     */
    private static final class Pairs {
        static final int MOST = 120;
        /** A pair's number has so many bits; two of them are packed in one short. */
        static final int NUMBER_BITS = 7;
        static final int NUMBERS = 1 << NUMBER_BITS;
        /** Stands for every size above what a tree may have. */
        static final int FAR = MOST_NODES + 1;

        private final int[] states = new int[MOST];
        /** The rules whose first, whose second arm may be a tree of this pair. */
        private final int[] asFirst = new int[MOST];
        private final int[] asSecond = new int[MOST];
        /** The least tree: its size, its sign, the pairs of its arms (-1 for none). */
        private final int[] size = new int[MOST];
        private final int[] sign = new int[MOST];
        private final int[] first = new int[MOST];
        private final int[] second = new int[MOST];
        private final boolean[] isFinal = new boolean[MOST];
        /** Where a pair stands, by its bits: its number and 1, 0 for none. */
        private final short[] numbers = new short[1 << 2 * STATES];
        private final int[] rulesOf = new int[SIGNS];
        /** What trees become under e and f, under g and h. */
        private final short[] under = new short[MOST];
        private final short[] joined = new short[MOST * MOST];
        final Tally tally = new Tally();
        final Kin kin = new Kin();
        /** The law learnt last, as a copy: so it is there before one is learnt, and stays as it was. */
        private final Law law = new Law();
        private int onHere = -1;
        private int onThere = -1;
        int many;
        boolean full;

        void forget() {
            for (int p = 0; p < many; p++) {
                numbers[states[p]] = 0;
            }
            many = 0;
            full = false;
            onHere = -1;
            onThere = -1;
        }

        /** Pairs become final from the least tree up, as no greater tree can make one less. */
        void learn(Law its, int here, int there) {
            if (here == onHere && there == onThere) {
                return;
            }
            forget();
            law.copyFrom(its);
            onHere = here;
            onThere = there;
            begin();
            for (int k = 0; k < MOST && !full; k++) {
                int p = nearest();
                if (p < 0) {
                    return;
                }
                isFinal[p] = true;
                int e = offer(rulesOf[4] & asFirst[p], 4, p, -1);
                int f = offer(rulesOf[5] & asFirst[p], 5, p, -1);
                under[p] = (short) (e | f << NUMBER_BITS);
                for (int q = 0; q < many && !full; q++) {
                    if (isFinal[q]) {
                        join(p, q);
                        join(q, p);
                    }
                }
            }
        }

        private void begin() {
            tally.begin();
            for (int s = 0; s < SIGNS; s++) {
                rulesOf[s] = 0;
            }
            for (int k = 0; k < law.many; k++) {
                rulesOf[law.sign[k]] |= bit(onHere, k) << k | bit(onThere, k) << k + MOST_RULES;
            }
            for (int s = 0; s < LEAVES; s++) {
                tally.putLeaf(s, offer(rulesOf[s], s, -1, -1));
            }
        }

        private int nearest() {
            int best = -1;
            for (int p = 0; p < many; p++) {
                if (!isFinal[p] && (best < 0 || size[p] < size[best])) {
                    best = p;
                }
            }
            return best;
        }

        private void join(int p, int q) {
            int fit = asFirst[p] & asSecond[q];
            int g = offer(rulesOf[6] & fit, 6, p, q);
            int h = offer(rulesOf[7] & fit, 7, p, q);
            joined[p * MOST + q] = (short) (g | h << NUMBER_BITS);
        }

        /** The pair that these rules make; the tree of this sign over p and q is weighed for it. */
        private int offer(int fitting, int its, int p, int q) {
            int bits = resultsOf(fitting);
            int target = numbers[bits] - 1;
            int weight = sizeOver(p, q);
            if (target < 0) {
                if (many >= MOST) {
                    full = true;
                    return 0;
                }
                target = many;
                add(bits);
            } else if (isFinal[target] || !isLess(weight, its, p, q, target)) {
                return target;
            }
            size[target] = weight;
            sign[target] = its;
            first[target] = p;
            second[target] = q;
            return target;
        }

        private int resultsOf(int fitting) {
            int bits = 0;
            for (int k = 0; k < law.many && fitting != 0; k++) {
                bits |= bit(fitting, k) << law.result[k];
                bits |= bit(fitting, k + MOST_RULES) << law.result[k] + STATES;
            }
            return bits;
        }

        private int sizeOver(int p, int q) {
            int all = 1;
            if (p >= 0) {
                all += size[p];
            }
            if (q >= 0) {
                all += size[q];
            }
            return Math.min(all, FAR);
        }

        private void add(int bits) {
            int p = many;
            many++;
            numbers[bits] = (short) many;
            states[p] = bits;
            isFinal[p] = false;
            asFirst[p] = 0;
            asSecond[p] = 0;
            for (int k = 0; k < law.many; k++) {
                if (armsOf(law.sign[k]) > 0) {
                    asFirst[p] |= ruleBits(bits, law.first[k], k);
                }
                if (armsOf(law.sign[k]) > 1) {
                    asSecond[p] |= ruleBits(bits, law.second[k], k);
                }
            }
        }

        private static int ruleBits(int bits, int state, int k) {
            return bit(bits, state) << k | bit(bits, state + STATES) << k + MOST_RULES;
        }

        private boolean isLess(int weight, int its, int p, int q, int than) {
            if (weight != size[than] || weight == FAR) {
                return weight < size[than];
            }
            if (its != sign[than]) {
                return its < sign[than];
            }
            return p != first[than] ? comesBefore(p, first[than]) : comesBefore(q, second[than]);
        }

        /** By the signs of their least trees, which differ, as a tree comes to one pair only. */
        private boolean comesBefore(int p, int q) {
            int a = p;
            int b = q;
            for (int k = 0; k < MOST_NODES && a >= 0 && b >= 0 && a != b; k++) {
                if (sign[a] != sign[b]) {
                    return sign[a] < sign[b];
                }
                boolean sameFirst = first[a] == first[b];
                a = sameFirst ? second[a] : first[a];
                b = sameFirst ? second[b] : first[b];
            }
            return false;
        }

        int sizeOf(int p) {
            return size[p];
        }

        /** Packed: the pairs of e and f over p. */
        int overOne(int p) {
            return under[p];
        }

        /** Packed: the pairs of g and h over p and q. */
        int overTwo(int p, int q) {
            return joined[p * MOST + q];
        }

        static int lowOf(int packed) {
            return packed & NUMBERS - 1;
        }

        static int highOf(int packed) {
            return packed >> NUMBER_BITS & NUMBERS - 1;
        }

        boolean isGoodHere(int p, int goods) {
            return (states[p] & goods) != 0;
        }

        boolean isGoodThere(int p, int goods) {
            return (states[p] >> STATES & goods) != 0;
        }

        boolean isApart(int p, int goodsHere, int goodsThere) {
            return isGoodHere(p, goodsHere) != isGoodThere(p, goodsThere);
        }

        /** The pair whose least tree is the least that is good by just one; NONE. */
        int leastApart(int goodsHere, int goodsThere) {
            int best = NONE;
            for (int p = 0; p < many; p++) {
                if (size[p] != FAR && isApart(p, goodsHere, goodsThere)
                    && (best < 0 || size[p] < size[best]
                        || size[p] == size[best] && comesBefore(p, best))) {
                    best = p;
                }
            }
            return best;
        }

        /** Of a pair's least tree how many signs (i is -1), or the i-th. */
        int tellTree(int p, int i) {
            if (p < 0 || p >= many) {
                return NONE;
            }
            if (i < 0) {
                return size[p];
            }
            return i < size[p] ? signAt(p, i) : NOT_SO_MANY;
        }

        private int signAt(int p, int i) {
            int at = p;
            int ahead = i;
            for (int k = 0; k < MOST_NODES && ahead > 0 && first[at] >= 0; k++) {
                int arm = first[at];
                ahead--;
                if (ahead >= size[arm] && second[at] >= 0) {
                    ahead -= size[arm];
                    arm = second[at];
                }
                at = arm;
            }
            return sign[at];
        }
    }

    /** How many trees of so many signs come to each pair. */
    private static final class Tally {
        static final int ROW = MOST_COUNTED + 1;
        private final long[] trees = new long[Pairs.NUMBERS * ROW];
        /** The pair that each sign without arms comes to. */
        private final int[] leaf = new int[LEAVES];
        private boolean isDone;

        void begin() {
            isDone = false;
        }

        void putLeaf(int sign, int p) {
            if (sign >= 0 && sign < LEAVES) {
                leaf[sign] = p;
            }
        }

        long treesOf(Pairs pairs, int p, int n) {
            if (!isDone) {
                addLeaves();
                for (int k = 2; k < ROW; k++) {
                    addOneArmed(pairs, k);
                    addTwoArmed(pairs, k);
                }
                isDone = true;
            }
            return trees[p * ROW + n];
        }

        private void addLeaves() {
            for (int k = 0; k < Pairs.NUMBERS * ROW; k++) {
                trees[k] = 0;
            }
            for (int s = 0; s < LEAVES; s++) {
                trees[leaf[s] * ROW + 1]++;
            }
        }

        private void addOneArmed(Pairs pairs, int n) {
            for (int p = 0; p < pairs.many; p++) {
                addBoth(pairs.overOne(p), n, trees[p * ROW + n - 1]);
            }
        }

        private void addTwoArmed(Pairs pairs, int n) {
            for (int p = 0; p < pairs.many; p++) {
                for (int q = 0; q < pairs.many; q++) {
                    long ways = 0;
                    for (int k = pairs.sizeOf(p); k <= n - 1 - pairs.sizeOf(q); k++) {
                        ways += trees[p * ROW + k] * trees[q * ROW + n - 1 - k];
                    }
                    if (ways != 0) {
                        addBoth(pairs.overTwo(p, q), n, ways);
                    }
                }
            }
        }

        private void addBoth(int packed, int n, long ways) {
            trees[Pairs.lowOf(packed) * ROW + n] += ways;
            trees[Pairs.highOf(packed) * ROW + n] += ways;
        }
    }

    /** Which sets no greater tree can tell apart: split as long as one step more tells some. */
    private static final class Kin {
        private final int[] kind = new int[Pairs.NUMBERS];
        private final int[] next = new int[Pairs.NUMBERS];
        /** A set of each kind found in a round. */
        private final int[] one = new int[Pairs.NUMBERS];

        int countKinds(Pairs pairs, int goods) {
            for (int p = 0; p < pairs.many; p++) {
                kind[p] = pairs.isGoodHere(p, goods) ? 1 : 0;
            }
            int had = 0;
            for (int round = 0; round < Pairs.MOST; round++) {
                int found = splitByMoves(pairs);
                if (found == had) {
                    return found;
                }
                had = found;
            }
            return had;
        }

        private int splitByMoves(Pairs pairs) {
            int found = 0;
            for (int p = 0; p < pairs.many; p++) {
                int mine = 0;
                while (mine < found && !isLike(pairs, one[mine], p)) {
                    mine++;
                }
                if (mine == found) {
                    one[found] = p;
                    found++;
                }
                next[p] = mine;
            }
            for (int p = 0; p < pairs.many; p++) {
                kind[p] = next[p];
            }
            return found;
        }

        private boolean isLike(Pairs pairs, int p, int q) {
            if (kind[p] != kind[q] || !areKinds(pairs.overOne(p), pairs.overOne(q))) {
                return false;
            }
            for (int r = 0; r < pairs.many; r++) {
                if (!areKinds(pairs.overTwo(p, r), pairs.overTwo(q, r))
                    || !areKinds(pairs.overTwo(r, p), pairs.overTwo(r, q))) {
                    return false;
                }
            }
            return true;
        }

        private boolean areKinds(int a, int b) {
            return kind[Pairs.lowOf(a)] == kind[Pairs.lowOf(b)]
                && kind[Pairs.highOf(a)] == kind[Pairs.highOf(b)];
        }
    }
}
