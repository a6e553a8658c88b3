/** The document's limits, the deepest and longest derivations, and what calls cost. */
public final class LimitsTest {
    private static final int NONE = NoneWords.NONE;
    private static final Checks CHECKS = new Checks();

    public static void main(String[] args) {
        mostNodes();
        deepestChain();
        deepestChainOfLeaves();
        longestSentence();
        dearestSearches();
        CHECKS.end("LimitsTest");
    }

    private static void mostNodes() {
        NoneWords x = Checks.withNames(4, 4);
        for (int node = 0; node < 120; node++) {
            int got = node % 2 == 0 ? x.leaf(2, 0, node, 0, 0) : x.join(node - 1, node - 1, 0);
            CHECKS.due("node " + node, got, node);
        }
        CHECKS.due("a leaf too many", x.leaf(2, 0, 1, 0, 0), NONE);
        CHECKS.due("a need too many", x.leaf(1, 0, 1, 1, 1), NONE);
        CHECKS.due("a join too many", x.join(0, 0, 0), NONE);
        CHECKS.due("no such node", x.terms(120), NONE);
        CHECKS.due("the last", x.write(119), 1);
    }

    /** Each node is made of the one before, twice: 119 joins, all but the last SHARED. */
    private static void deepestChain() {
        NoneWords x = Checks.withNames(2);
        x.leaf(2, 0, 1, 0, 0);
        for (int node = 1; node < 120; node++) {
            CHECKS.due("chain " + node, x.join(node - 1, node - 1, 0), node);
        }
        CHECKS.due("write the chain", x.write(119), 119);
        for (int i = 0; i < 119; i++) {
            CHECKS.due("line " + i, x.line(i), i == 118 ? 0 : i + 1);
            CHECKS.due("numbered " + (i + 1), x.numbered(i + 1), i == 118 ? 0 : i + 1);
        }
        CHECKS.due("sentence 9", Checks.text(x, 9), "And because a 0 can't be (9), a 0 can't be.");
        CHECKS.due("sentence 10", Checks.text(x, 10), "And because a 0 can't be (10), a 0 can't be.");
        CHECKS.due("sentence 99", Checks.text(x, 99), "And because a 0 can't be (99), a 0 can't be.");
        CHECKS.due("sentence 100", Checks.text(x, 100), "And because a 0 can't be (100), a 0 can't be.");
        CHECKS.due("sentence 118", Checks.text(x, 118), "And because a 0 can't be (118), a 0 can't be.");
    }

    /** Each node is made of the one before and a leaf, so every other one is passed over. */
    private static void deepestChainOfLeaves() {
        NoneWords x = Checks.withNames(2);
        x.leaf(2, 0, 1, 0, 0);
        x.join(0, 0, 0);
        for (int node = 2; node < 120; node++) {
            CHECKS.due("chain " + node, x.join(node - 1, 0, 0), node);
        }
        CHECKS.due("write the chain", x.write(119), 60);
        CHECKS.due("sentence 1", Checks.text(x, 1),
            "And because a 0 is withdrawn and a 0 is withdrawn, a 0 can't be.");
        CHECKS.due("an even one", x.write(118), 60);
        CHECKS.due("sentence 1 of it", Checks.text(x, 1), "And because a 0 is withdrawn, a 0 can't be.");
    }

    /** Two causes with numbers of three digits and five terms in all three parts: 232 signs. */
    private static void longestSentence() {
        NoneWords x = Checks.withNames(4, 4, 4, 4, 4);
        int wide = x.leaf(3, 0, 11, 1, 11);
        for (int name = 2; name < 5; name++) {
            wide = x.join(wide, x.leaf(3, name - 1, 11, name, 11), name - 1);
        }
        int late = wide;
        for (int i = 0; i < 110; i++) {
            late = x.join(late, late, 0);
        }
        int first = x.join(late, late, 0);
        int second = x.join(late, late - 1, 0);
        int last = x.join(first, second, 0);
        CHECKS.due("all nodes", last, 119);
        int count = x.write(last);
        String five = "a 0-1,3 and b 0-1,3 and c 0-1,3 and d 0-1,3 and e 0-1,3 can't all be";
        CHECKS.due("the longest", Checks.text(x, count - 2),
            "Because " + five + " (111) and " + five + " (110), " + five + ".");
        CHECKS.due("its signs", x.sentence(count - 2), 232);
        CHECKS.due("the last", Checks.text(x, count - 1), "And because " + five + " (112), " + five + ".");
    }

    /** Five names of four versions with 119 leaves: no search may take long, nor any call throw. */
    private static void dearestSearches() {
        NoneWords x = Checks.withNames(4, 4, 4, 4, 4);
        for (int i = 0; i < 20; i++) {
            x.leaf(0, i % 5, 15, 0, 0);
        }
        for (int i = 0; i < 99; i++) {
            int name = i % 5;
            int set = 1 + i % 15;
            x.leaf(i % 2 == 0 ? 1 : 3, name, set, (name + 1 + i % 4) % 5, 1 + i % 13);
        }
        boolean solvable = x.solvable();
        for (int i = 0; i < 380; i++) {
            CHECKS.due("least", x.least() > 0, !solvable);
            x.hint(i % 7);
        }
    }
}
