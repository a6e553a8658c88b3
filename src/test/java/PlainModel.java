import java.util.ArrayList;
import java.util.HashSet;
import java.util.List;
import java.util.Set;
import java.util.TreeMap;

/**
 * The document once more, in the most literal form: terms as sets of what they are true of, worlds
 * gone through one by one, writing as recursion over texts. Slow, and shares nothing with the class.
 */
final class PlainModel {
    static final int NO_VERSION = -1;

    final List<Integer> names = new ArrayList<>();
    final List<Node> nodes = new ArrayList<>();
    List<String> sentences = new ArrayList<>();
    List<Integer> lines = new ArrayList<>();
    int[] numbers = new int[0];
    List<Integer> stayed = new ArrayList<>();
    private int root;
    private int given;

    static final class Node {
        int kind = -1;
        int name;
        Set<Integer> set;
        int other;
        Set<Integer> otherSet;
        int p = -1;
        int q = -1;
        /** By name: the versions (or NO_VERSION) of which its term is true. */
        final TreeMap<Integer, Set<Integer>> terms = new TreeMap<>();

        boolean isJoin() {
            return p >= 0;
        }
    }

    int name(int versions) {
        if (names.size() == 5 || versions < 0 || versions > 4) {
            return -1;
        }
        names.add(versions);
        return names.size() - 1;
    }

    private boolean isName(int name) {
        return name >= 0 && name < names.size();
    }

    private boolean isNode(int node) {
        return node >= 0 && node < nodes.size();
    }

    private Set<Integer> versions(int name, int bits) {
        Set<Integer> set = new HashSet<>();
        for (int v = 0; v < names.get(name); v++) {
            if ((bits & (1 << v)) != 0) {
                set.add(v);
            }
        }
        return set;
    }

    private Set<Integer> choices(int name) {
        Set<Integer> all = versions(name, 15);
        all.add(NO_VERSION);
        return all;
    }

    private Set<Integer> not(int name, Set<Integer> set) {
        Set<Integer> rest = choices(name);
        rest.removeAll(set);
        return rest;
    }

    private void put(Node node, int name, Set<Integer> truth) {
        if (!truth.equals(choices(name))) {
            node.terms.put(name, truth);
        }
    }

    int leaf(int kind, int name, int set, int other, int otherSet) {
        boolean pair = kind == 1 || kind == 3;
        if (kind < 0 || kind > 3 || !isName(name) || nodes.size() == 120) {
            return -1;
        }
        if (pair && (!isName(other) || other == name)) {
            return -1;
        }
        Node leaf = new Node();
        leaf.kind = kind;
        leaf.name = name;
        leaf.set = versions(name, set);
        put(leaf, name, kind == 0 ? not(name, leaf.set) : leaf.set);
        if (pair) {
            leaf.other = other;
            leaf.otherSet = versions(other, otherSet);
            put(leaf, other, kind == 1 ? not(other, leaf.otherSet) : leaf.otherSet);
        }
        nodes.add(leaf);
        return nodes.size() - 1;
    }

    int join(int a, int b, int name) {
        if (!isNode(a) || !isNode(b) || nodes.size() == 120) {
            return -1;
        }
        Node left = nodes.get(a);
        Node right = nodes.get(b);
        if (!left.terms.containsKey(name) || !right.terms.containsKey(name)) {
            return -1;
        }
        Node join = new Node();
        join.p = a;
        join.q = b;
        for (int n = 0; n < names.size(); n++) {
            Set<Integer> one = left.terms.get(n);
            Set<Integer> two = right.terms.get(n);
            if (one == null && two == null) {
                continue;
            }
            Set<Integer> truth = new HashSet<>(one != null ? one : two);
            if (n == name) {
                truth.addAll(two);
            } else if (one != null && two != null) {
                truth.retainAll(two);
            }
            put(join, n, truth);
        }
        nodes.add(join);
        return nodes.size() - 1;
    }

    int terms(int node) {
        return isNode(node) ? nodes.get(node).terms.size() : -1;
    }

    int term(int node, int i, int what) {
        if (!isNode(node) || i < 0 || i >= nodes.get(node).terms.size()) {
            return -1;
        }
        int name = new ArrayList<>(nodes.get(node).terms.keySet()).get(i);
        Set<Integer> truth = nodes.get(node).terms.get(name);
        if (what == 0) {
            return name;
        }
        if (what == 1) {
            int bits = 0;
            for (int v : told(name, truth)) {
                bits |= 1 << v;
            }
            return bits;
        }
        return what == 2 ? (wanted(truth) ? 1 : 0) : -1;
    }

    private static boolean wanted(Set<Integer> truth) {
        return !truth.contains(NO_VERSION);
    }

    private Set<Integer> told(int name, Set<Integer> truth) {
        return wanted(truth) ? truth : not(name, truth);
    }

    private String words(int name, Set<Integer> set) {
        String letter = "abcde".substring(name, name + 1);
        if (set.isEmpty()) {
            return "no " + letter;
        }
        if (set.size() == names.get(name)) {
            return letter;
        }
        List<String> runs = new ArrayList<>();
        int v = 0;
        while (v < 4) {
            if (!set.contains(v)) {
                v++;
                continue;
            }
            int from = v;
            while (set.contains(v + 1)) {
                v++;
            }
            runs.add(from == v ? "" + v : from + "-" + v);
            v++;
        }
        return letter + " " + String.join(",", runs);
    }

    private String words(int number) {
        Node n = nodes.get(number);
        switch (n.kind) {
            case 0: return words(n.name, n.set) + " is asked for";
            case 1: return words(n.name, n.set) + " needs " + words(n.other, n.otherSet);
            case 2: return words(n.name, n.set) + " is withdrawn";
            case 3: return words(n.name, n.set) + " excludes " + words(n.other, n.otherSet);
            default: break;
        }
        List<String> wanted = new ArrayList<>();
        List<String> not = new ArrayList<>();
        n.terms.forEach((name, truth) -> (wanted(truth) ? wanted : not).add(words(name, told(name, truth))));
        if (n.terms.isEmpty()) {
            return "nothing is left";
        }
        if (not.isEmpty()) {
            String end = wanted.size() == 1 ? " can't be" : wanted.size() == 2 ? " can't both be" : " can't all be";
            return String.join(" and ", wanted) + end;
        }
        if (wanted.isEmpty()) {
            return String.join(" or ", not) + " must be";
        }
        String verb = wanted.size() == 1 ? " means " : " mean ";
        return String.join(" and ", wanted) + verb + String.join(" or ", not);
    }

    private String toldWords(int node) {
        return words(node) + (numbers[node] == 0 ? "" : " (" + numbers[node] + ")");
    }

    int write(int node) {
        if (!isNode(node)) {
            return -1;
        }
        root = node;
        given = 0;
        numbers = new int[120];
        sentences = new ArrayList<>();
        lines = new ArrayList<>();
        put(node);
        return sentences.size();
    }

    private boolean shared(int node) {
        Set<Integer> made = new HashSet<>();
        gather(root, made);
        int times = 0;
        for (int n : made) {
            times += nodes.get(n).p == node ? 1 : 0;
            times += nodes.get(n).q == node ? 1 : 0;
        }
        return nodes.get(node).isJoin() && times >= 2;
    }

    private void gather(int node, Set<Integer> made) {
        if (nodes.get(node).isJoin() && made.add(node)) {
            gather(nodes.get(node).p, made);
            gather(nodes.get(node).q, made);
        }
    }

    private boolean simple(int node) {
        Node n = nodes.get(node);
        return n.isJoin() && !nodes.get(n.p).isJoin() && !nodes.get(n.q).isJoin();
    }

    private void say(String text) {
        sentences.add(text);
        lines.add(0);
    }

    private void number(int node) {
        given++;
        numbers[node] = given;
        lines.set(lines.size() - 1, given);
    }

    private void put(int node) {
        Node n = nodes.get(node);
        if (!n.isJoin()) {
            say(words(node) + ".");
            return;
        }
        if (numbers[node] != 0) {
            return;
        }
        boolean pJoin = nodes.get(n.p).isJoin();
        boolean qJoin = nodes.get(n.q).isJoin();
        if (!pJoin && !qJoin) {
            say("Because " + words(n.p) + " and " + words(n.q) + ", " + words(node) + ".");
        } else if (pJoin && qJoin) {
            putOfJoins(node, n.p, n.q);
        } else {
            putOfLeafAndJoin(node, pJoin ? n.q : n.p, pJoin ? n.p : n.q);
        }
        if (shared(node)) {
            number(node);
        }
    }

    private void putOfLeafAndJoin(int node, int l, int j) {
        if (numbers[j] != 0) {
            say("Because " + words(l) + " and " + toldWords(j) + ", " + words(node) + ".");
            return;
        }
        int p = nodes.get(j).p;
        int q = nodes.get(j).q;
        boolean mixed = nodes.get(p).isJoin() != nodes.get(q).isJoin();
        int i = nodes.get(p).isJoin() ? p : q;
        int m = nodes.get(p).isJoin() ? q : p;
        if (!shared(j) && mixed && numbers[i] == 0) {
            put(i);
            say("And because " + words(m) + " and " + words(l) + ", " + words(node) + ".");
        } else {
            put(j);
            say("And because " + words(l) + ", " + words(node) + ".");
        }
    }

    private void putOfJoins(int node, int p, int q) {
        if (numbers[p] != 0 && numbers[q] != 0) {
            say("Because " + toldWords(p) + " and " + toldWords(q) + ", " + words(node) + ".");
            return;
        }
        if (numbers[p] != 0 || numbers[q] != 0) {
            int x = numbers[p] != 0 ? p : q;
            put(x == p ? q : p);
            say("And because " + toldWords(x) + ", " + words(node) + ".");
            return;
        }
        int first = p;
        int second = q;
        if (!simple(q) && simple(p)) {
            first = q;
            second = p;
        }
        boolean neither = !simple(p) && !simple(q);
        put(first);
        if (neither && numbers[first] == 0) {
            number(first);
        }
        if (numbers[second] != 0) {
            say("And because " + toldWords(second) + ", " + words(node) + ".");
            return;
        }
        put(second);
        say((neither ? "And because " + toldWords(first) + ", " : "Thus, ") + words(node) + ".");
    }

    int sentence(int i) {
        return i >= 0 && i < sentences.size() ? sentences.get(i).length() : -1;
    }

    int letter(int i, int k) {
        return k >= 0 && k < sentence(i) ? sentences.get(i).charAt(k) : -1;
    }

    int line(int i) {
        return i >= 0 && i < lines.size() ? lines.get(i) : 0;
    }

    int numbered(int node) {
        return node >= 0 && node < numbers.length ? numbers[node] : 0;
    }

    private boolean solvable(Set<Integer> without) {
        return world(new ArrayList<>(), without);
    }

    private boolean world(List<Integer> chosen, Set<Integer> without) {
        if (chosen.size() < names.size()) {
            for (int choice : choices(chosen.size())) {
                chosen.add(choice);
                boolean good = world(chosen, without);
                chosen.remove(chosen.size() - 1);
                if (good) {
                    return true;
                }
            }
            return false;
        }
        for (int node = 0; node < nodes.size(); node++) {
            if (!nodes.get(node).isJoin() && !without.contains(node) && broken(nodes.get(node), chosen)) {
                return false;
            }
        }
        return true;
    }

    private static boolean broken(Node leaf, List<Integer> chosen) {
        for (int name : leaf.terms.keySet()) {
            if (!leaf.terms.get(name).contains(chosen.get(name))) {
                return false;
            }
        }
        return true;
    }

    boolean solvable() {
        return solvable(Set.of());
    }

    int least() {
        stayed = new ArrayList<>();
        if (solvable()) {
            return 0;
        }
        Set<Integer> out = new HashSet<>();
        for (int node = 0; node < nodes.size(); node++) {
            if (nodes.get(node).kind == 0) {
                out.add(node);
                if (solvable(out)) {
                    out.remove(node);
                    stayed.add(node);
                }
            }
        }
        return stayed.size();
    }

    int demand(int i) {
        return i >= 0 && i < stayed.size() ? stayed.get(i) : -1;
    }

    int hint(int i) {
        List<Integer> hints = new ArrayList<>();
        for (int node = 0; node < nodes.size() && !solvable(); node++) {
            int kind = nodes.get(node).kind;
            if ((kind == 0 || kind == 2 || kind == 3) && solvable(Set.of(node))) {
                hints.add(node);
            }
        }
        return i >= 0 && i < hints.size() ? hints.get(i) : -1;
    }
}
