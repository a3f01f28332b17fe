import java.util.ArrayList;
import java.util.List;
import java.util.Random;
import java.util.Set;
import java.util.TreeSet;

/** A law as a list of rules, and what it makes of one tree, word by word as the document has it. */
final class PlainLaw {
    /** Each rule: its sign, the states of its arms, the state that it becomes. */
    final List<int[]> rules = new ArrayList<>();
    int on;
    int goods;

    static PlainLaw byChance(Random dice, int states) {
        PlainLaw law = new PlainLaw();
        int many = 6 + dice.nextInt(11);
        for (int k = 0; k < many; k++) {
            char s = "abcdefefghghgh".charAt(dice.nextInt(14));
            int[] rule = new int[Model.arms(s) + 2];
            rule[0] = s;
            for (int a = 1; a < rule.length; a++) {
                rule[a] = dice.nextInt(states);
            }
            law.rules.add(rule);
        }
        law.on = (1 << many) - 1;
        law.goods = 1 << dice.nextInt(states);
        return law;
    }

    PlainLaw copy() {
        PlainLaw other = new PlainLaw();
        other.rules.addAll(rules);
        other.on = on;
        other.goods = goods;
        return other;
    }

    /** A new object that has this law, with the rules off and the states good that are so here. */
    TreeBecomes made() {
        TreeBecomes x = Due.made(text(), "");
        show(x);
        return x;
    }

    /** The rules that are on and the states that are good become so there. */
    void show(TreeBecomes x) {
        for (int k = 0; k < rules.size(); k++) {
            x.turn(k, on >> k & 1);
        }
        for (int s = 0; s < 6; s++) {
            x.good(s, goods >> s & 1);
        }
    }

    String text() {
        StringBuilder b = new StringBuilder();
        for (int[] rule : rules) {
            b.append((char) rule[0]);
            for (int a = 1; a < rule.length; a++) {
                b.append(' ').append(rule[a]);
            }
            b.append(';');
        }
        return b.toString();
    }

    String told() {
        return text() + " on " + Integer.toBinaryString(on) + " good " + Integer.toBinaryString(goods);
    }

    boolean isOn(int k) {
        return (on >> k & 1) == 1;
    }

    /** As bits. */
    int comesTo(String t) {
        int first = Model.arms(t.charAt(0)) > 0 ? comesTo(Model.arm(t, 1)) : 0;
        int second = Model.arms(t.charAt(0)) > 1 ? comesTo(Model.arm(t, 2)) : 0;
        int states = 0;
        for (int k = 0; k < rules.size(); k++) {
            int[] rule = rules.get(k);
            if (isOn(k) && rule[0] == t.charAt(0)
                && (rule.length < 3 || (first >> rule[1] & 1) == 1)
                && (rule.length < 4 || (second >> rule[2] & 1) == 1)) {
                states |= 1 << rule[rule.length - 1];
            }
        }
        return states;
    }

    boolean isGood(String t) {
        return (comesTo(t) & goods) != 0;
    }

    /** All ways to give nodes rules that fit so that all becomes good: of each way the states of nodes 0, 1, .. */
    List<int[]> goodWays(String t) {
        List<int[]> found = new ArrayList<>();
        int[] due = new int[t.length()];
        for (int s = 0; s < 6; s++) {
            if ((goods >> s & 1) == 1) {
                due[0] = s;
                giveRules(t, 0, due, found);
            }
        }
        return found;
    }

    /** Nodes before i have rules; due has the states that those rules ask of their arms. */
    private void giveRules(String t, int i, int[] due, List<int[]> found) {
        if (i == t.length()) {
            found.add(due.clone());
            return;
        }
        for (int k = 0; k < rules.size(); k++) {
            int[] rule = rules.get(k);
            if (isOn(k) && rule[0] == t.charAt(i) && rule[rule.length - 1] == due[i]) {
                int arm = i + 1;
                for (int a = 1; a < rule.length - 1; a++) {
                    due[arm] = rule[a];
                    arm = Model.endOf(t, arm);
                }
                giveRules(t, i + 1, due, found);
            }
        }
    }

    /** All trees of up to so many signs, by their number of signs, the first by signs first. */
    static List<List<String>> allTrees(int most) {
        List<List<String>> trees = new ArrayList<>();
        trees.add(new ArrayList<>());
        for (int n = 1; n <= most; n++) {
            Set<String> now = new TreeSet<>();
            for (char s = 'a'; s <= 'h'; s++) {
                if (Model.arms(s) == 0 && n == 1) {
                    now.add("" + s);
                }
                for (String t : Model.arms(s) == 1 ? trees.get(n - 1) : new ArrayList<String>()) {
                    now.add(s + t);
                }
                for (int k = 1; Model.arms(s) == 2 && k < n - 1; k++) {
                    for (String a : trees.get(k)) {
                        for (String b : trees.get(n - 1 - k)) {
                            now.add(s + a + b);
                        }
                    }
                }
            }
            trees.add(new ArrayList<>(now));
        }
        return trees;
    }
}
