import java.math.BigInteger;
import java.util.ArrayList;
import java.util.Arrays;
import java.util.Collections;
import java.util.HashMap;
import java.util.LinkedHashSet;
import java.util.List;
import java.util.Map;
import java.util.Set;
import java.util.TreeMap;
import java.util.TreeSet;
import java.util.regex.Matcher;
import java.util.regex.Pattern;

/** The document told a second time, by the plainest means and without regard to cost. */
final class Model {
    private static final int BAD = -1, STATE = -2, FULL = -3, NONE = -9, NO = -1000000;

    record Rule(char sign, int first, int second, int result) {
    }

    record Kept(Set<Integer> on, Set<Integer> goods, String tree) {
    }

    /** To which states a tree comes by one law and by another one. */
    record Pair(Set<Integer> here, Set<Integer> there) {
    }

    private String text = "";
    private List<Rule> rules = new ArrayList<>();
    private Set<Integer> on = new TreeSet<>();
    private Set<Integer> goods = new TreeSet<>();
    private String tree = "";
    private final Kept[] images = new Kept[2];
    private long trace;
    private final Map<List<Object>, Set<Pair>> pairsKnown = new HashMap<>();
    private final Map<List<Object>, Map<Pair, String>> leastKnown = new HashMap<>();

    static int arms(char sign) {
        return "gh".indexOf(sign) >= 0 ? 2 : "ef".indexOf(sign) >= 0 ? 1 : 0;
    }

    /** Where the part that begins at i ends. */
    static int endOf(String t, int i) {
        int end = i + 1;
        for (int a = 0; a < arms(t.charAt(i)); a++) {
            end = endOf(t, end);
        }
        return end;
    }

    static String part(String t, int i) {
        return t.substring(i, endOf(t, i));
    }

    static String arm(String t, int which) {
        String first = part(t, 1);
        return which == 1 ? first : part(t, 1 + first.length());
    }

    // ---- texts

    long type(long v, int n) {
        if (n < 1 || n > 8) {
            return BAD;
        }
        if (text.length() + n > 300) {
            return FULL;
        }
        for (int k = n - 1; k >= 0; k--) {
            text += (char) (v >>> (8 * k) & 255);
        }
        return text.length();
    }

    long clear() {
        int had = text.length();
        text = "";
        return had;
    }

    private static final Pattern TOKEN = Pattern.compile("[a-z]+|[0-9]+|;");

    /** Each token as {place, kind, value}; a last one for the end. */
    private static List<int[]> tokens(String text) {
        List<int[]> found = new ArrayList<>();
        int at = 0;
        while (at < text.length()) {
            Matcher m = TOKEN.matcher(text).region(at, text.length());
            if (text.charAt(at) == ' ') {
                at++;
            } else if (m.lookingAt()) {
                found.add(token(m.group(), at));
                at = m.end();
            } else {
                found.add(new int[] {at, '?', 0});
                at++;
            }
        }
        found.add(new int[] {text.length(), '$', 0});
        return found;
    }

    private static int[] token(String word, int at) {
        if (word.equals(";")) {
            return new int[] {at, ';', 0};
        }
        if (word.equals("good")) {
            return new int[] {at, 'G', 0};
        }
        if (word.matches("[a-h]")) {
            return new int[] {at, 's', word.charAt(0)};
        }
        if (word.matches("[0-5]")) {
            return new int[] {at, 'n', Integer.parseInt(word)};
        }
        return new int[] {at, '?', 0};
    }

    long law() {
        List<int[]> tokens = tokens(text);
        List<Rule> read = new ArrayList<>();
        Set<Integer> good = new TreeSet<>();
        int items = 0;
        int k = 0;
        while (tokens.get(k)[1] != '$') {
            int[] head = tokens.get(k);
            boolean isRule = head[1] == 's' && read.size() < 16;
            if (!isRule && head[1] != 'G') {
                return -10 - head[0];
            }
            int least = isRule ? arms((char) head[2]) + 1 : 1;
            int most = isRule ? least : 1000;
            List<Integer> numbers = new ArrayList<>();
            k++;
            while (tokens.get(k)[1] == 'n' && numbers.size() < most) {
                numbers.add(tokens.get(k)[2]);
                k++;
            }
            if (numbers.size() < least || tokens.get(k)[1] != ';') {
                return -10 - tokens.get(k)[0];
            }
            k++;
            items++;
            if (isRule) {
                int n = numbers.size();
                read.add(new Rule((char) head[2], n > 1 ? numbers.get(0) : NONE, n > 2 ? numbers.get(1) : NONE,
                    numbers.get(n - 1)));
            } else {
                good.addAll(numbers);
            }
        }
        rules = read;
        goods = good;
        on = new TreeSet<>();
        for (int r = 0; r < rules.size(); r++) {
            on.add(r);
        }
        Arrays.fill(images, null);
        text = "";
        return items;
    }

    long tree() {
        String signs = "";
        for (int at = 0; at < text.length(); at++) {
            char c = text.charAt(at);
            if (c == ' ') {
                continue;
            }
            if (c < 'a' || c > 'h' || signs.length() == 31 || isWhole(signs)) {
                return -10 - at;
            }
            signs += c;
        }
        if (!isWhole(signs)) {
            return -10 - text.length();
        }
        tree = signs;
        text = "";
        return signs.length();
    }

    private static boolean isWhole(String signs) {
        int missing = 1;
        for (char c : signs.toCharArray()) {
            missing += arms(c) - 1;
        }
        return missing == 0;
    }

    // ---- single things

    long rule(int k, int what) {
        if (k < 0 || k >= rules.size() || what < 0 || what > 4) {
            return BAD;
        }
        Rule r = rules.get(k);
        return new int[] {r.sign - 'a', r.first, r.second, r.result, on.contains(k) ? 1 : 0}[what];
    }

    private static long set(Set<Integer> set, int x, int is) {
        boolean was = is == 1 ? !set.add(x) : set.remove(x);
        return was ? 1 : 0;
    }

    long turn(int k, int is) {
        return k < 0 || k >= rules.size() || is < 0 || is > 1 ? BAD : set(on, k, is);
    }

    long good(int s, int is) {
        return s < 0 || s > 5 || is < 0 || is > 1 ? BAD : set(goods, s, is);
    }

    private boolean has(int i) {
        return i >= 0 && i < tree.length();
    }

    long node(int i, int what) {
        if (!has(i) || what < 0 || what > 3) {
            return BAD;
        }
        int over = NONE;
        for (int j = 0; j < i; j++) {
            if (endOf(tree, j) > i) {
                over = j;
            }
        }
        return new long[] {tree.charAt(i) - 'a', part(tree, i).length(), over,
            bits(comes(part(tree, i), on))}[what];
    }

    long sign(int i, int its) {
        if (!has(i) || its < 0 || its > 7 || arms((char) ('a' + its)) != arms(tree.charAt(i))) {
            return BAD;
        }
        int was = tree.charAt(i) - 'a';
        tree = tree.substring(0, i) + (char) ('a' + its) + tree.substring(i + 1);
        return was;
    }

    long exchange(int i) {
        if (!has(i)) {
            return BAD;
        }
        if (arms(tree.charAt(i)) != 2) {
            return STATE;
        }
        String p = part(tree, i);
        tree = tree.substring(0, i) + p.charAt(0) + arm(p, 2) + arm(p, 1) + tree.substring(endOf(tree, i));
        return 1;
    }

    private static long bits(Set<Integer> set) {
        long all = 0;
        for (int x : set) {
            all |= 1L << x;
        }
        return all;
    }

    // ---- the tree

    Set<Integer> comes(String t, Set<Integer> by) {
        char s = t.charAt(0);
        Set<Integer> first = arms(s) > 0 ? comes(arm(t, 1), by) : null;
        Set<Integer> second = arms(s) > 1 ? comes(arm(t, 2), by) : null;
        return over(s, first, second, by);
    }

    boolean comesToNothing(String t) {
        return comes(t, on).isEmpty();
    }

    private Set<Integer> over(char s, Set<Integer> first, Set<Integer> second, Set<Integer> by) {
        Set<Integer> found = new TreeSet<>();
        for (int k : by) {
            Rule r = rules.get(k);
            if (r.sign == s && (arms(s) < 1 || first.contains(r.first))
                && (arms(s) < 2 || second.contains(r.second))) {
                found.add(r.result);
            }
        }
        return found;
    }

    private static boolean meet(Set<Integer> a, Set<Integer> b) {
        return !Collections.disjoint(a, b);
    }

    long isGood() {
        return tree.isEmpty() ? STATE : meet(comes(tree, on), goods) ? 1 : 0;
    }

    private BigInteger ways(String t, int state) {
        BigInteger all = BigInteger.ZERO;
        for (int k : on) {
            Rule r = rules.get(k);
            if (r.sign == t.charAt(0) && r.result == state) {
                BigInteger mine = BigInteger.ONE;
                if (arms(r.sign) > 0) {
                    mine = mine.multiply(ways(arm(t, 1), r.first));
                }
                if (arms(r.sign) > 1 && mine.signum() != 0) {
                    mine = mine.multiply(ways(arm(t, 2), r.second));
                }
                all = all.add(mine);
            }
        }
        return all;
    }

    long runs() {
        if (tree.isEmpty()) {
            return STATE;
        }
        BigInteger all = BigInteger.ZERO;
        for (int s : goods) {
            all = all.add(ways(tree, s));
        }
        return all.mod(BigInteger.valueOf(1000003)).longValue();
    }

    long places(int s) {
        if (s < 0 || s > 5) {
            return BAD;
        }
        long found = 0;
        for (int i = 0; i < tree.length(); i++) {
            if (comes(part(tree, i), on).contains(s)) {
                found |= 1L << i;
            }
        }
        return found;
    }

    /** Sets that a part can come to by some signs, with the best signs for each. */
    private Map<Set<Integer>, String> mends(String t) {
        Map<Set<Integer>, String> found = new HashMap<>();
        Map<Set<Integer>, String> none = Map.of(Set.of(), "");
        int arms = arms(t.charAt(0));
        Map<Set<Integer>, String> first = arms > 0 ? mends(arm(t, 1)) : none;
        Map<Set<Integer>, String> second = arms > 1 ? mends(arm(t, 2)) : none;
        for (char s : new String[] {"abcd", "ef", "gh"}[arms].toCharArray()) {
            for (Set<Integer> a : first.keySet()) {
                for (Set<Integer> b : second.keySet()) {
                    betterMend(found, over(s, a, b, on), s + first.get(a) + second.get(b), t);
                }
            }
        }
        return found;
    }

    private static void betterMend(Map<Set<Integer>, String> found, Set<Integer> set, String signs, String t) {
        String had = found.get(set);
        if (had == null || differs(signs, t) < differs(had, t)
            || differs(signs, t) == differs(had, t) && signs.compareTo(had) < 0) {
            found.put(set, signs);
        }
    }

    private static int differs(String a, String b) {
        int all = 0;
        for (int i = 0; i < a.length(); i++) {
            all += a.charAt(i) == b.charAt(i) ? 0 : 1;
        }
        return all;
    }

    long mend(int i) {
        if (i != -1 && !has(i)) {
            return BAD;
        }
        if (tree.isEmpty()) {
            return STATE;
        }
        Map<Set<Integer>, String> best = new HashMap<>();
        for (Map.Entry<Set<Integer>, String> e : mends(tree).entrySet()) {
            if (meet(e.getKey(), goods)) {
                betterMend(best, Set.of(), e.getValue(), tree);
            }
        }
        String signs = best.get(Set.of());
        return signs == null ? NONE : i == -1 ? differs(signs, tree) : signs.charAt(i) - 'a';
    }

    // ---- all trees

    private Pair pairOver(char s, Pair a, Pair b, Set<Integer> by) {
        return new Pair(over(s, a == null ? null : a.here, b == null ? null : b.here, on),
            over(s, a == null ? null : a.there, b == null ? null : b.there, by));
    }

    private interface Making {
        void made(char s, Pair a, Pair b, Pair result);
    }

    private void makeAll(Iterable<Pair> known, Set<Integer> by, Making to) {
        for (char s = 'a'; s <= 'd'; s++) {
            to.made(s, null, null, pairOver(s, null, null, by));
        }
        for (Pair p : known) {
            for (char s = 'e'; s <= 'f'; s++) {
                to.made(s, p, null, pairOver(s, p, null, by));
            }
            for (Pair q : known) {
                for (char s = 'g'; s <= 'h'; s++) {
                    to.made(s, p, q, pairOver(s, p, q, by));
                }
            }
        }
    }

    /** What a kind of answer depends on, so that the dearest ones are not worked out again and again. */
    private List<Object> asked(Set<Integer> by) {
        return List.of(List.copyOf(rules), List.copyOf(on), List.copyOf(by));
    }

    /** All pairs; null if there are more than 120. */
    private Set<Pair> pairs(Set<Integer> by) {
        List<Object> key = asked(by);
        if (!pairsKnown.containsKey(key)) {
            Set<Pair> found = findPairs(by, 120);
            pairsKnown.put(key, found.size() > 120 ? null : found);
        }
        return pairsKnown.get(key);
    }

    /** How many there are with an image's law, however many. */
    int pairCount(int image) {
        return findPairs(images[image].on, Integer.MAX_VALUE).size();
    }

    /** All of them, or some above a limit. */
    private Set<Pair> findPairs(Set<Integer> by, int limit) {
        Set<Pair> known = new LinkedHashSet<>();
        int had = -1;
        while (known.size() != had && known.size() <= limit) {
            had = known.size();
            makeAll(new ArrayList<>(known), by, (s, a, b, result) -> known.add(result));
        }
        return known;
    }

    long sets() {
        return pairs(Set.of()).size();
    }

    long classes() {
        Set<Pair> all = pairs(Set.of());
        Map<Pair, String> name = new HashMap<>();
        for (Pair p : all) {
            name.put(p, meet(p.here, goods) ? "1" : "0");
        }
        int had = 0;
        while (new TreeSet<>(name.values()).size() != had) {
            had = new TreeSet<>(name.values()).size();
            Map<Pair, String> next = new HashMap<>();
            for (Pair p : all) {
                next.put(p, name.get(p) + steps(p, all, name));
            }
            TreeMap<String, String> numbers = new TreeMap<>();
            for (String s : next.values()) {
                numbers.putIfAbsent(s, "," + numbers.size());
            }
            for (Pair p : all) {
                name.put(p, numbers.get(next.get(p)));
            }
        }
        return had;
    }

    private String steps(Pair p, Set<Pair> all, Map<Pair, String> name) {
        StringBuilder b = new StringBuilder();
        for (char s = 'e'; s <= 'f'; s++) {
            b.append(name.get(pairOver(s, p, null, Set.of())));
        }
        for (Pair q : all) {
            for (char s = 'g'; s <= 'h'; s++) {
                b.append(name.get(pairOver(s, p, q, Set.of()))).append(name.get(pairOver(s, q, p, Set.of())));
            }
        }
        return b.toString();
    }

    long useful() {
        Set<Integer> reached = new TreeSet<>();
        for (Pair p : pairs(Set.of())) {
            reached.addAll(p.here);
        }
        long found = 0;
        for (int s : reached) {
            if (canBecomeGood(s, reached, new TreeSet<>())) {
                found |= 1L << s;
            }
        }
        return found;
    }

    private boolean canBecomeGood(int s, Set<Integer> reached, Set<Integer> tried) {
        if (goods.contains(s)) {
            return true;
        }
        if (!tried.add(s)) {
            return false;
        }
        for (int k : on) {
            Rule r = rules.get(k);
            boolean first = arms(r.sign) > 0 && r.first == s
                && (arms(r.sign) < 2 || reached.contains(r.second));
            boolean second = arms(r.sign) > 1 && r.second == s && reached.contains(r.first);
            if ((first || second) && canBecomeGood(r.result, reached, tried)) {
                return true;
            }
        }
        return false;
    }

    private static boolean isFirst(String a, String b) {
        return a.length() < b.length() || a.length() == b.length() && a.compareTo(b) < 0;
    }

    /** The least tree of each pair, 31 signs at most. */
    private Map<Pair, String> leastTrees(Set<Integer> by) {
        List<Object> key = asked(by);
        if (!leastKnown.containsKey(key)) {
            leastKnown.put(key, findLeastTrees(by));
        }
        return leastKnown.get(key);
    }

    private Map<Pair, String> findLeastTrees(Set<Integer> by) {
        Map<Pair, String> best = new HashMap<>();
        boolean[] changed = {true};
        while (changed[0]) {
            changed[0] = false;
            makeAll(new ArrayList<>(best.keySet()), by, (s, a, b, result) -> {
                String t = s + (a == null ? "" : best.get(a)) + (b == null ? "" : best.get(b));
                if (t.length() <= 31 && (!best.containsKey(result) || isFirst(t, best.get(result)))) {
                    best.put(result, t);
                    changed[0] = true;
                }
            });
        }
        return best;
    }

    private String leastApart(Set<Integer> by, Set<Integer> goodThere) {
        String least = null;
        for (Map.Entry<Pair, String> e : leastTrees(by).entrySet()) {
            boolean apart = meet(e.getKey().here, goods) != meet(e.getKey().there, goodThere);
            if (apart && (least == null || isFirst(e.getValue(), least))) {
                least = e.getValue();
            }
        }
        return least;
    }

    private static long tell(String t, int i) {
        return t == null ? NONE : i == -1 ? t.length() : i < t.length() ? t.charAt(i) - 'a' : -5;
    }

    long least(int i) {
        return i < -1 ? BAD : tell(leastApart(Set.of(), Set.of()), i);
    }

    private long countGood(int n, Set<Integer> by, Set<Integer> goodThere) {
        List<Map<Pair, Long>> trees = new ArrayList<>();
        trees.add(new HashMap<>());
        for (int size = 1; size <= n; size++) {
            Map<Pair, Long> now = new HashMap<>();
            if (size == 1) {
                for (char s = 'a'; s <= 'd'; s++) {
                    now.merge(pairOver(s, null, null, by), 1L, Long::sum);
                }
            }
            for (Map.Entry<Pair, Long> e : trees.get(size - 1).entrySet()) {
                for (char s = 'e'; s <= 'f'; s++) {
                    now.merge(pairOver(s, e.getKey(), null, by), e.getValue(), Long::sum);
                }
            }
            for (int k = 1; k < size - 1; k++) {
                for (Map.Entry<Pair, Long> a : trees.get(k).entrySet()) {
                    for (Map.Entry<Pair, Long> b : trees.get(size - 1 - k).entrySet()) {
                        for (char s = 'g'; s <= 'h'; s++) {
                            now.merge(pairOver(s, a.getKey(), b.getKey(), by), a.getValue() * b.getValue(), Long::sum);
                        }
                    }
                }
            }
            trees.add(now);
        }
        long all = 0;
        for (Map.Entry<Pair, Long> e : trees.get(n).entrySet()) {
            if (meet(e.getKey().here, goods) && (goodThere == null || meet(e.getKey().there, goodThere))) {
                all += e.getValue();
            }
        }
        return all;
    }

    long many(int n) {
        return n < 1 || n > 15 ? BAD : countGood(n, Set.of(), null);
    }

    // ---- two laws

    private long refusal(int image, boolean bad) {
        if (image < 0 || image > 1 || bad) {
            return BAD;
        }
        if (images[image] == null) {
            return STATE;
        }
        return pairs(images[image].on) == null ? FULL : 0;
    }

    long alike(int image) {
        long refused = refusal(image, false);
        if (refused != 0) {
            return refused;
        }
        for (Pair p : pairs(images[image].on)) {
            if (meet(p.here, goods) != meet(p.there, images[image].goods)) {
                return 0;
            }
        }
        return 1;
    }

    long apart(int image, int i) {
        long refused = refusal(image, i < -1);
        return refused != 0 ? refused : tell(leastApart(images[image].on, images[image].goods), i);
    }

    long both(int image, int n) {
        long refused = refusal(image, n < 1 || n > 15);
        return refused != 0 ? refused : countGood(n, images[image].on, images[image].goods);
    }

    // ---- kinds, images

    long mark(int kind, int i) {
        if (kind < 0 || kind > 5 || !has(i)) {
            return NO;
        }
        long part = part(tree, i).length();
        long its = tree.charAt(i) - 'a';
        trace += new long[] {1, 11, 101, 1011, 10101, 100001}[kind];
        return new long[] {part, part * 2, part + its, part * 2 + arms(tree.charAt(i)),
            part + its - comes(part(tree, i), on).size(), part + i}[kind];
    }

    long keep(int image) {
        if (image < 0 || image > 1) {
            return BAD;
        }
        images[image] = new Kept(new TreeSet<>(on), new TreeSet<>(goods), tree);
        return on.size();
    }

    long back(int image) {
        if (image < 0 || image > 1) {
            return BAD;
        }
        if (images[image] == null) {
            return STATE;
        }
        on = new TreeSet<>(images[image].on);
        goods = new TreeSet<>(images[image].goods);
        tree = images[image].tree;
        return on.size();
    }

    long count(int what) {
        return what < 0 || what > 4 ? BAD
            : new long[] {rules.size(), on.size(), bits(goods), tree.length(), text.length()}[what];
    }

    long trace() {
        return trace;
    }
}
