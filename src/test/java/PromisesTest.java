/** Each promise by its number: ordinary inputs, the edges that the document names, wrong inputs. */
public final class PromisesTest {
    private static final int NONE = NoneWords.NONE;
    private static final int[] WRONG = {-1, -2, 5, 120, 121, Integer.MAX_VALUE, Integer.MIN_VALUE};

    private static final Checks CHECKS = new Checks();

    public static void main(String[] args) {
        newObject();
        names();
        leaves();
        leavesRefused();
        joins();
        joinsRefused();
        termsOfNodes();
        writes();
        sentencesAndLetters();
        linesAndNumbers();
        solvable();
        least();
        leastInOrder();
        hints();
        CHECKS.end("PromisesTest");
    }

    private static void due(String call, long got, long want) {
        CHECKS.due(call, got, want);
    }

    private static void term(NoneWords x, int node, int i, int name, int set, int wanted) {
        CHECKS.term(x, node, i, name, set, wanted);
    }

    /** Promise 1. */
    private static void newObject() {
        NoneWords x = new NoneWords();
        due("1 NONE", NONE, -1);
        due("1 terms", x.terms(0), NONE);
        due("1 term", x.term(0, 0, 0), NONE);
        due("1 leaf", x.leaf(0, 0, 1, 0, 0), NONE);
        due("1 join", x.join(0, 0, 0), NONE);
        due("1 write", x.write(0), NONE);
        due("1 sentence", x.sentence(0), NONE);
        due("1 letter", x.letter(0, 0), NONE);
        due("1 line", x.line(0), 0);
        due("1 numbered", x.numbered(0), 0);
        CHECKS.due("1 solvable", x.solvable(), true);
        due("1 demand before least", x.demand(0), NONE);
        due("1 least", x.least(), 0);
        due("1 demand", x.demand(0), NONE);
        due("1 hint", x.hint(0), NONE);
        due("1 name", x.name(0), 0);
        NoneWords y = new NoneWords();
        due("1 objects are apart", y.name(4), 0);
    }

    /** Promise 2. */
    private static void names() {
        NoneWords x = new NoneWords();
        due("2 below", x.name(-1), NONE);
        due("2 above", x.name(5), NONE);
        due("2 far below", x.name(Integer.MIN_VALUE), NONE);
        due("2 far above", x.name(Integer.MAX_VALUE), NONE);
        due("2 least", x.name(0), 0);
        due("2 most", x.name(4), 1);
        due("2 third", x.name(1), 2);
        due("2 refused between", x.name(6), NONE);
        due("2 fourth", x.name(2), 3);
        due("2 fifth", x.name(3), 4);
        due("2 sixth", x.name(3), NONE);
        due("2 the fifth is there", x.leaf(2, 4, 4, 0, 0), 0);
        due("2 a sixth isn't", x.leaf(2, 5, 4, 0, 0), NONE);
    }

    /** Promise 3: what the kinds are. */
    private static void leaves() {
        NoneWords x = Checks.withNames(3, 2, 4);
        due("3 demand", x.leaf(0, 0, 5, 0, 0), 0);
        due("3 demand terms", x.terms(0), 1);
        term(x, 0, 0, 0, 5, 0);
        due("3 need", x.leaf(1, 2, 9, 1, 2), 1);
        due("3 need terms", x.terms(1), 2);
        term(x, 1, 0, 1, 2, 0);
        term(x, 1, 1, 2, 9, 1);
        due("3 gone", x.leaf(2, 1, 1, 77, 99), 2);
        due("3 gone terms", x.terms(2), 1);
        term(x, 2, 0, 1, 1, 1);
        due("3 conflict", x.leaf(3, 2, 15, 0, 3), 3);
        due("3 conflict terms", x.terms(3), 2);
        term(x, 3, 0, 0, 3, 1);
        term(x, 3, 1, 2, 15, 1);
        due("3 other bits mean nothing", x.leaf(0, 0, -1, 0, 0), 4);
        term(x, 4, 0, 0, 7, 0);
        due("3 versions that aren't there", x.leaf(3, 1, 0xfffc, 0, 0x78), 5);
        term(x, 5, 0, 0, 0, 1);
        term(x, 5, 1, 1, 0, 1);
        due("3 a full demand", x.leaf(0, 1, 4, 0, 0), 6);
        due("3 falls away", x.terms(6), 0);
        due("3 a full need", x.leaf(1, 0, 1, 1, 0), 7);
        due("3 one term stays", x.terms(7), 1);
        term(x, 7, 0, 0, 1, 1);
        due("3 other doesn't count for 0", x.leaf(0, 0, 1, -7, 0), 8);
        due("3 nor for 2", x.leaf(2, 0, 1, 0, 0), 9);
    }

    /** Promise 3: wrong inputs. */
    private static void leavesRefused() {
        NoneWords x = Checks.withNames(3, 2);
        for (int wrong : WRONG) {
            due("3 kind " + wrong, x.leaf(wrong, 0, 1, 1, 1), NONE);
            due("3 name " + wrong, x.leaf(0, wrong, 1, 1, 1), NONE);
            due("3 other of a need " + wrong, x.leaf(1, 0, 1, wrong, 1), NONE);
            due("3 other of a conflict " + wrong, x.leaf(3, 0, 1, wrong, 1), NONE);
        }
        due("3 kind 4", x.leaf(4, 0, 1, 1, 1), NONE);
        due("3 name 2", x.leaf(2, 2, 1, 1, 1), NONE);
        due("3 a need of itself", x.leaf(1, 1, 1, 1, 2), NONE);
        due("3 a conflict with itself", x.leaf(3, 0, 1, 0, 2), NONE);
        due("3 nothing was made", x.leaf(0, 0, 1, 1, 1), 0);
    }

    /** Promise 4: what a join is. */
    private static void joins() {
        NoneWords x = Checks.withNames(4, 4, 4);
        x.leaf(1, 0, 3, 1, 1);
        x.leaf(3, 1, 3, 2, 6);
        due("4 join", x.join(0, 1, 1), 2);
        due("4 terms", x.terms(2), 2);
        term(x, 2, 0, 0, 3, 1);
        term(x, 2, 1, 2, 6, 1);
        x.leaf(3, 1, 14, 2, 3);
        due("4 the same again is a new one", x.join(0, 1, 1), 4);
        due("4 full falls away", x.terms(4), 2);
        due("4 both have the other name", x.join(1, 3, 1), 5);
        term(x, 5, 0, 1, 15, 1);
        term(x, 5, 1, 2, 2, 1);
        x.leaf(1, 0, 6, 1, 3);
        due("4 not or not", x.join(0, 6, 1), 7);
        term(x, 7, 0, 0, 2, 1);
        term(x, 7, 1, 1, 1, 0);
        due("4 not and not", x.join(0, 6, 0), 8);
        term(x, 8, 0, 0, 7, 1);
        term(x, 8, 1, 1, 3, 0);
        due("4 wanted and not", x.join(0, 3, 1), 9);
        due("4 it isn't full", x.terms(9), 3);
        term(x, 9, 1, 1, 1, 0);
        x.leaf(2, 1, 4, 0, 0);
        due("4 a not that shrinks", x.join(6, 10, 1), 11);
        term(x, 11, 1, 1, 3, 0);
        due("4 with itself", x.join(11, 11, 0), 12);
        term(x, 12, 0, 0, 6, 1);
        x.leaf(3, 0, 1, 2, 1);
        x.leaf(1, 0, 2, 1, 4);
        due("4 by a later name", x.join(13, 1, 2), 15);
        term(x, 15, 2, 2, 7, 1);
        due("4 a wanted one out of wanted and not", x.join(13, 14, 0), 16);
        term(x, 16, 0, 0, 3, 1);
        term(x, 16, 1, 1, 4, 0);
        term(x, 16, 2, 2, 1, 1);
        x.leaf(1, 2, 4, 0, 15);
        due("4 what is never true stays", x.join(17, 13, 2), 18);
        term(x, 18, 0, 0, 0, 1);
        term(x, 18, 1, 2, 5, 1);
    }

    /** Promise 4: wrong inputs. */
    private static void joinsRefused() {
        NoneWords x = Checks.withNames(2, 2, 0);
        x.leaf(2, 0, 1, 0, 0);
        x.leaf(2, 1, 1, 0, 0);
        x.leaf(1, 0, 1, 2, 1);
        for (int wrong : WRONG) {
            due("4 a " + wrong, x.join(wrong, 0, 0), NONE);
            due("4 b " + wrong, x.join(0, wrong, 0), NONE);
            due("4 name " + wrong, x.join(0, 0, wrong), NONE);
        }
        due("4 a node to come", x.join(0, 3, 0), NONE);
        due("4 a has no term", x.join(1, 0, 0), NONE);
        due("4 b has no term", x.join(0, 1, 0), NONE);
        due("4 neither has", x.join(0, 1, 2), NONE);
        due("4 it fell away", x.join(2, 2, 2), NONE);
        due("4 nothing was made", x.join(0, 2, 0), 3);
        due("4 the new one counts", x.join(3, 3, 0), 4);
    }

    /** Promises 5 and 6. */
    private static void termsOfNodes() {
        NoneWords x = Checks.withNames(3, 3);
        x.leaf(1, 1, 5, 0, 6);
        due("5 two", x.terms(0), 2);
        for (int wrong : WRONG) {
            due("5 node " + wrong, x.terms(wrong), NONE);
            due("6 node " + wrong, x.term(wrong, 0, 0), NONE);
            due("6 i " + wrong, x.term(0, wrong, 0), NONE);
            due("6 what " + wrong, x.term(0, 0, wrong), NONE);
        }
        due("5 the next node", x.terms(1), NONE);
        due("6 the next node", x.term(1, 0, 0), NONE);
        due("6 behind the last", x.term(0, 2, 0), NONE);
        due("6 what 3", x.term(0, 1, 3), NONE);
        term(x, 0, 0, 0, 6, 0);
        term(x, 0, 1, 1, 5, 1);
        x.name(2);
        due("5 a name that came later", x.terms(0), 2);
        due("6 a name that came later", x.term(0, 2, 0), NONE);
        x.leaf(0, 2, 0, 0, 0);
        due("5 none", x.terms(1), 0);
        due("6 none", x.term(1, 0, 0), NONE);
    }

    /** Promise 7. */
    private static void writes() {
        NoneWords x = Checks.withNames(2, 1);
        x.leaf(0, 0, 3, 0, 0);
        x.leaf(1, 0, 3, 1, 1);
        x.leaf(2, 1, 1, 0, 0);
        x.join(1, 2, 1);
        x.join(3, 0, 0);
        CHECKS.written(x, 4,
            "Because a needs b and b is withdrawn, a can't be.",
            "And because a is asked for, nothing is left.");
        for (int wrong : WRONG) {
            due("7 node " + wrong, x.write(wrong), NONE);
        }
        CHECKS.due("7 stays", Checks.text(x, 1), "And because a is asked for, nothing is left.");
        x.leaf(0, 0, 1, 0, 0);
        x.name(3);
        CHECKS.due("7 stays still", Checks.text(x, 0), "Because a needs b and b is withdrawn, a can't be.");
        CHECKS.written(x, 2, "b is withdrawn.");
        CHECKS.written(x, 4,
            "Because a needs b and b is withdrawn, a can't be.",
            "And because a is asked for, nothing is left.");
    }

    /** Promises 8 and 9. */
    private static void sentencesAndLetters() {
        NoneWords x = Checks.withNames(2);
        x.leaf(2, 0, 2, 0, 0);
        x.write(0);
        String text = "a 1 is withdrawn.";
        due("8 signs", x.sentence(0), text.length());
        for (int k = 0; k < text.length(); k++) {
            due("9 sign " + k, x.letter(0, k), text.charAt(k));
        }
        due("9 behind the last", x.letter(0, text.length()), NONE);
        for (int wrong : WRONG) {
            due("8 sentence " + wrong, x.sentence(wrong), NONE);
            due("9 sentence " + wrong, x.letter(wrong, 0), NONE);
        }
        due("8 the next", x.sentence(1), NONE);
        due("9 the next", x.letter(1, 0), NONE);
        due("9 k -1", x.letter(0, -1), NONE);
        due("9 k least", x.letter(0, Integer.MIN_VALUE), NONE);
        due("9 k most", x.letter(0, Integer.MAX_VALUE), NONE);
    }

    /** Promises 10 and 11. */
    private static void linesAndNumbers() {
        NoneWords x = Checks.withNames(2);
        x.leaf(2, 0, 2, 0, 0);
        x.leaf(2, 0, 1, 0, 0);
        x.join(0, 1, 0);
        x.join(2, 2, 0);
        x.join(3, 3, 0);
        CHECKS.written(x, 4,
            "[1] Because a 1 is withdrawn and a 0 is withdrawn, a can't be.",
            "[2] And because a can't be (1), a can't be.",
            "And because a can't be (2), a can't be.");
        due("11 first", x.numbered(2), 1);
        due("11 second", x.numbered(3), 2);
        due("11 the written one", x.numbered(4), 0);
        due("11 a leaf", x.numbered(0), 0);
        due("11 a node to come", x.numbered(5), 0);
        due("10 behind the last", x.line(3), 0);
        for (int wrong : WRONG) {
            due("10 sentence " + wrong, x.line(wrong), 0);
            due("11 node " + wrong, x.numbered(wrong), 0);
        }
        due("11 a failed writing", x.write(5), NONE);
        due("11 stays", x.numbered(3), 2);
        due("10 stays", x.line(1), 2);
        x.join(4, 4, 0);
        due("11 a node that came later", x.numbered(5), 0);
        x.write(3);
        due("11 the latest writing", x.numbered(2), 1);
        due("11 not of the latest writing", x.numbered(3), 0);
        x.write(0);
        due("11 none left", x.numbered(2), 0);
        due("10 none left", x.line(0), 0);
        due("10 gone", x.line(1), 0);
    }

    /** Promise 12. */
    private static void solvable() {
        NoneWords x = Checks.withNames(2, 2);
        CHECKS.due("12 no leaves", x.solvable(), true);
        x.leaf(0, 0, 3, 0, 0);
        CHECKS.due("12 a demand", x.solvable(), true);
        x.leaf(1, 0, 1, 1, 1);
        x.leaf(3, 0, 2, 1, 3);
        CHECKS.due("12 a way is left", x.solvable(), true);
        x.leaf(0, 1, 2, 0, 0);
        CHECKS.due("12 none is left", x.solvable(), false);
        NoneWords y = Checks.withNames(2, 0);
        y.leaf(2, 0, 3, 0, 0);
        y.leaf(3, 0, 3, 1, 3);
        y.leaf(1, 0, 3, 1, 0);
        CHECKS.due("12 nothing asked, nothing had", y.solvable(), true);
        y.leaf(0, 1, 15, 0, 0);
        CHECKS.due("12 what has no versions is asked for", y.solvable(), false);
        NoneWords z = Checks.withNames(2);
        z.leaf(2, 0, 3, 0, 0);
        z.leaf(2, 0, 1, 0, 0);
        z.join(0, 1, 0);
        CHECKS.due("12 joins don't count", z.solvable(), true);
        NoneWords w = Checks.withNames(1, 1);
        w.leaf(0, 0, 1, 0, 0);
        w.leaf(1, 0, 1, 1, 1);
        w.leaf(3, 1, 1, 0, 1);
        CHECKS.due("12 a need against a conflict", w.solvable(), false);
        NoneWords v = Checks.withNames(1, 1);
        v.leaf(0, 1, 1, 0, 0);
        v.leaf(1, 1, 1, 0, 1);
        CHECKS.due("12 a need of an earlier name", v.solvable(), true);
        v.leaf(2, 0, 1, 0, 0);
        CHECKS.due("12 that is withdrawn", v.solvable(), false);
    }

    /** Promises 13 and 14. */
    private static void least() {
        NoneWords x = Checks.withNames(2, 2, 2);
        x.leaf(0, 2, 3, 0, 0);
        x.leaf(0, 0, 1, 0, 0);
        x.leaf(0, 0, 3, 0, 0);
        x.leaf(3, 0, 1, 1, 3);
        due("13 solvable", x.least(), 0);
        due("14 solvable", x.demand(0), NONE);
        x.leaf(0, 1, 1, 0, 0);
        x.leaf(0, 1, 3, 0, 0);
        due("14 before the next least", x.demand(0), NONE);
        due("13 two stay", x.least(), 2);
        due("14 first", x.demand(0), 1);
        due("14 second", x.demand(1), 5);
        due("14 behind the last", x.demand(2), NONE);
        for (int wrong : WRONG) {
            due("14 i " + wrong, x.demand(wrong), NONE);
        }
        CHECKS.due("13 nothing is left out for good", x.solvable(), false);
        x.leaf(0, 2, 0, 0, 0);
        due("14 the latest least", x.demand(1), 5);
        due("13 one stays", x.least(), 1);
        due("14 it", x.demand(0), 6);
        due("14 no second", x.demand(1), NONE);
        due("13 again", x.least(), 1);
    }

    /** Promise 13: by number, so of two that would do the later one stays. */
    private static void leastInOrder() {
        NoneWords x = Checks.withNames(4);
        x.leaf(0, 0, 3, 0, 0);
        x.leaf(0, 0, 1, 0, 0);
        x.leaf(0, 0, 12, 0, 0);
        x.leaf(0, 0, 8, 0, 0);
        due("13 in order", x.least(), 2);
        due("14 the first two of the four go", x.demand(0), 1);
        due("14 the last stays", x.demand(1), 3);
        NoneWords y = Checks.withNames(3);
        y.leaf(0, 0, 3, 0, 0);
        y.leaf(0, 0, 5, 0, 0);
        y.leaf(0, 0, 6, 0, 0);
        due("13 all three", y.least(), 3);
        due("14 third", y.demand(2), 2);
        NoneWords z = Checks.withNames(1);
        z.leaf(0, 0, 1, 0, 0);
        z.leaf(0, 0, 1, 0, 0);
        z.leaf(2, 0, 1, 0, 0);
        due("13 the first goes", z.least(), 1);
        due("14 the second stays", z.demand(0), 1);
        due("13 the first is back: the second alone is no hint", z.hint(0), 2);
        due("13 and no other", z.hint(1), NONE);
    }

    /** Promise 15. */
    private static void hints() {
        NoneWords x = Checks.withNames(2, 2);
        x.leaf(1, 0, 3, 1, 1);
        x.leaf(0, 0, 3, 0, 0);
        x.leaf(3, 0, 2, 1, 1);
        due("15 so already", x.hint(0), NONE);
        x.leaf(2, 0, 1, 0, 0);
        due("15 a demand", x.hint(0), 1);
        due("15 a conflict", x.hint(1), 2);
        due("15 a gone one", x.hint(2), 3);
        due("15 no need", x.hint(3), NONE);
        for (int wrong : WRONG) {
            due("15 i " + wrong, x.hint(wrong), NONE);
        }
        x.join(0, 1, 0);
        due("15 joins don't count", x.hint(2), 3);
        x.leaf(0, 0, 1, 0, 0);
        due("15 by now: the gone one alone", x.hint(0), 3);
        due("15 by now: no other", x.hint(1), NONE);
        x.leaf(0, 1, 0, 0, 0);
        due("15 two at once are no hint", x.hint(0), NONE);
        CHECKS.due("15 nothing is left out for good", x.solvable(), false);
        NoneWords y = Checks.withNames(1);
        y.leaf(2, 0, 1, 0, 0);
        y.leaf(0, 0, 1, 0, 0);
        due("15 the first node", y.hint(0), 0);
        due("15 the last node", y.hint(1), 1);
        due("15 behind the last", y.hint(2), NONE);
    }
}
