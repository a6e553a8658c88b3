/**
 * Each sentence of the promises 1 to 15 that names a boundary case, with a test of its own: the
 * number of the promise and the words of the sentence, and runs on new objects that it decides. In
 * square brackets: the case, where the words don't tell it.
 */
public final class PromisesBoundariesTest {
    private static final int NONE = NoneWords.NONE;
    private static final int DEMAND = 0;
    private static final int NEED = 1;
    private static final int GONE = 2;
    private static final int CONFLICT = 3;

    private static final Checks CHECKS = new Checks();

    public static void main(String[] args) {
        newObject();
        names();
        leaves();
        joins();
        terms();
        term();
        writing();
        sentences();
        letters();
        lines();
        numbered();
        solvable();
        least();
        demands();
        hints();
        CHECKS.end("PromisesBoundariesTest");
    }

    private static void promise(String words) {
        CHECKS.promise(words);
    }

    private static void due(String call, long got, long want) {
        CHECKS.due(call, got, want);
    }

    private static int asked(NoneWords x, int name, int set) {
        return x.leaf(DEMAND, name, set, 0, 0);
    }

    private static int gone(NoneWords x, int name, int set) {
        return x.leaf(GONE, name, set, 0, 0);
    }

    private static NoneWords withNodes(int nodes) {
        NoneWords x = Checks.withNames(4, 4);
        for (int node = 0; node < nodes; node++) {
            gone(x, 0, 1);
        }
        return x;
    }

    /** Two leaves, and joins 2 and 3 of which the first is SHARED: "[1] ..", "And because .. (1), ..". */
    private static NoneWords withTwoSentences() {
        NoneWords x = withNodes(2);
        x.join(0, 1, 0);
        x.join(2, 2, 0);
        x.write(3);
        return x;
    }

    private static void twoSentencesStand(NoneWords x) {
        CHECKS.due("sentence 0", Checks.lineAndText(x, 0),
            "[1] Because a 0 is withdrawn and a 0 is withdrawn, a 0 can't be.");
        CHECKS.due("sentence 1", Checks.lineAndText(x, 1), "And because a 0 can't be (1), a 0 can't be.");
        due("sentence 2", x.sentence(2), NONE);
        due("numbered(2)", x.numbered(2), 1);
    }

    /** A gone one, a demand, and their join, which has no terms. */
    private static NoneWords nothingIsLeft() {
        NoneWords x = Checks.withNames(1);
        gone(x, 0, 1);
        asked(x, 0, 1);
        x.join(0, 1, 0);
        return x;
    }

    private static void newObject() {
        promise("1 NoneWords(): No names");
        NoneWords x = new NoneWords();
        for (int name = 0; name < 5; name++) {
            due("a demand of name " + name, asked(x, name, 1), NONE);
        }
        due("the first name", x.name(4), 0);
        due("the first name of another object", new NoneWords().name(4), 0);
        promise("1 NoneWords(): no nodes");
        NoneWords y = new NoneWords();
        due("terms", y.terms(0), NONE);
        due("a term", y.term(0, 0, 0), NONE);
        due("write", y.write(0), NONE);
        y.name(1);
        due("a join", y.join(0, 0, 0), NONE);
        due("the first node", gone(y, 0, 1), 0);
        promise("1 NoneWords(): No names, no nodes [nothing is written, nothing was asked]");
        NoneWords z = new NoneWords();
        due("a sentence", z.sentence(0), NONE);
        due("a letter", z.letter(0, 0), NONE);
        due("a line", z.line(0), 0);
        due("a number", z.numbered(0), 0);
        due("a demand", z.demand(0), NONE);
        due("a hint", z.hint(0), NONE);
        due("least", z.least(), 0);
        CHECKS.due("solvable", z.solvable(), true);
    }

    private static void names() {
        promise("2 name: A new name .. its number [0 .. 4 versions]");
        NoneWords x = new NoneWords();
        for (int versions = 0; versions <= 4; versions++) {
            due("name(" + versions + ")", x.name(versions), versions);
            due("its versions", x.term(gone(x, versions, 15), 0, 1), (1 << versions) - 1);
        }
        promise("2 name: NONE if there are 5");
        for (int versions = 0; versions <= 4; versions++) {
            due("name(" + versions + ")", x.name(versions), NONE);
        }
        due("no name was made", gone(x, 5, 1), NONE);
        promise("2 name: NONE if .. it isn't 0 .. 4");
        NoneWords y = new NoneWords();
        for (int versions : Checks.outside(5)) {
            due("name(" + versions + ")", y.name(versions), NONE);
        }
        due("no name was made", gone(y, 0, 1), NONE);
        due("the first name", y.name(4), 0);
        due("name(5)", y.name(5), NONE);
        due("the second name", y.name(0), 1);
    }

    private static void leaves() {
        otherCountsForTwoKinds();
        noSuchKind();
        noSuchNames();
        bothNamesAreTheSame();
        noLeafBehind120Nodes();
        refusedLeavesChangeNothing();
    }

    private static void otherCountsForTwoKinds() {
        promise("3 leaf: other and its SET count for KINDS 1 and 3 [not for 0 and 2]");
        NoneWords x = Checks.withNames(4, 4);
        int node = 0;
        for (int other : new int[] {0, 1, 2, 5, -1, Integer.MIN_VALUE, Integer.MAX_VALUE}) {
            due("a demand, other " + other, x.leaf(DEMAND, 0, 3, other, other), node);
            due("its terms", x.terms(node), 1);
            CHECKS.term(x, node, 0, 0, 3, 0);
            due("a gone one, other " + other, x.leaf(GONE, 1, 6, other, other), node + 1);
            due("its terms", x.terms(node + 1), 1);
            CHECKS.term(x, node + 1, 0, 1, 6, 1);
            node += 2;
        }
        CHECKS.written(x, node - 1, "b 1-2 is withdrawn.");
        promise("3 leaf: other and its SET count for KINDS 1 and 3");
        CHECKS.term(x, x.leaf(NEED, 0, 3, 1, 6), 1, 1, 6, 0);
        CHECKS.term(x, x.leaf(CONFLICT, 0, 3, 1, 6), 1, 1, 6, 1);
    }

    private static void noSuchKind() {
        promise("3 leaf: NONE if there are no such KIND");
        NoneWords x = Checks.withNames(4, 4);
        for (int kind : Checks.outside(4)) {
            due("kind " + kind, x.leaf(kind, 0, 1, 1, 1), NONE);
        }
        due("no leaf was made", x.terms(0), NONE);
        for (int kind = 0; kind < 4; kind++) {
            due("kind " + kind, x.leaf(kind, 0, 1, 1, 1), kind);
        }
    }

    private static void noSuchNames() {
        promise("3 leaf: NONE if there are no such .. names");
        NoneWords x = Checks.withNames(4, 4);
        for (int name : Checks.outside(2)) {
            for (int kind = 0; kind < 4; kind++) {
                due("kind " + kind + ", name " + name, x.leaf(kind, name, 1, 0, 1), NONE);
            }
            due("a need, other " + name, x.leaf(NEED, 0, 1, name, 1), NONE);
            due("a conflict, other " + name, x.leaf(CONFLICT, 0, 1, name, 1), NONE);
        }
        due("no leaf was made", x.terms(0), NONE);
        x.name(4);
        due("the name is there by now", x.leaf(NEED, 2, 1, 1, 1), 0);
        due("and as the other one", x.leaf(CONFLICT, 0, 1, 2, 1), 1);
    }

    private static void bothNamesAreTheSame() {
        promise("3 leaf: NONE if .. both are the same");
        NoneWords x = Checks.withNames(4, 4, 4, 4, 4);
        for (int name = 0; name < 5; name++) {
            due("a need of itself, " + name, x.leaf(NEED, name, 1, name, 2), NONE);
            due("a conflict with itself, " + name, x.leaf(CONFLICT, name, 1, name, 2), NONE);
        }
        due("no leaf was made", x.terms(0), NONE);
        due("a demand has no other one", x.leaf(DEMAND, 3, 1, 3, 1), 0);
        due("nor has a gone one", x.leaf(GONE, 3, 1, 3, 1), 1);
    }

    private static void noLeafBehind120Nodes() {
        promise("3 leaf: NONE if .. there are 120 nodes");
        for (int kind = 0; kind < 4; kind++) {
            NoneWords x = withNodes(119);
            due("the 120th, of kind " + kind, x.leaf(kind, 0, 1, 1, 1), 119);
            due("a 121st", x.leaf(kind, 0, 1, 1, 1), NONE);
            due("there is none", x.terms(120), NONE);
        }
    }

    /** The refused leaf would have had no terms, or would have left nothing to choose. */
    private static void refusedLeavesChangeNothing() {
        promise("3 leaf: NONE [and no leaf]");
        NoneWords x = withTwoSentences();
        x.leaf(DEMAND, 2, 0, 0, 0);
        x.leaf(4, 0, 0, 0, 0);
        x.leaf(NEED, 0, 15, 0, 0);
        CHECKS.due("solvable", x.solvable(), true);
        twoSentencesStand(x);
        due("the next node", gone(x, 0, 1), 4);
        NoneWords y = withNodes(120);
        asked(y, 0, 0);
        CHECKS.due("solvable with 120 nodes", y.solvable(), true);
        due("least with 120 nodes", y.least(), 0);
    }

    private static void joins() {
        noSuchNodes();
        noSuchName();
        noTermOfTheName();
        noJoinBehind120Nodes();
        refusedJoinsChangeNothing();
    }

    private static void noSuchNodes() {
        promise("4 join: NONE if there are none such [nodes]");
        NoneWords x = withNodes(2);
        for (int node : Checks.outside(2)) {
            due("a " + node, x.join(node, 0, 0), NONE);
            due("b " + node, x.join(0, node, 0), NONE);
            due("both " + node, x.join(node, node, 0), NONE);
        }
        due("no join was made", x.terms(2), NONE);
        due("the first and the last", x.join(0, 1, 0), 2);
        due("the join itself", x.join(2, 2, 0), 3);
    }

    private static void noSuchName() {
        promise("4 join: NONE if there are none such [names]");
        NoneWords x = withNodes(2);
        for (int name : Checks.outside(2)) {
            due("name " + name, x.join(0, 1, name), NONE);
        }
        due("no join was made", x.terms(2), NONE);
    }

    private static void noTermOfTheName() {
        promise("4 join: NONE if .. one of them has no TERM of the name");
        NoneWords x = Checks.withNames(4, 4, 4);
        int a = gone(x, 0, 1);
        int ab = x.leaf(CONFLICT, 0, 1, 1, 1);
        due("the first one has none", x.join(a, ab, 1), NONE);
        due("the second one has none", x.join(ab, a, 1), NONE);
        due("neither has one", x.join(a, ab, 2), NONE);
        int fell = x.leaf(NEED, 0, 1, 1, 0);
        due("it was FULL", x.join(ab, fell, 1), NONE);
        due("it was FULL, turned", x.join(fell, ab, 1), NONE);
        int nothing = asked(x, 0, 0);
        due("a node without terms", x.join(nothing, a, 0), NONE);
        due("a node without terms, turned", x.join(a, nothing, 0), NONE);
        x.name(4);
        due("a name that came later", x.join(ab, ab, 3), NONE);
        due("no join was made", x.terms(4), NONE);
        int never = x.leaf(CONFLICT, 0, 1, 1, 0);
        due("an empty one that is WANTED is a term", x.join(never, never, 1), 5);
    }

    private static void noJoinBehind120Nodes() {
        promise("4 join: NONE if .. there are 120 nodes");
        NoneWords x = withNodes(119);
        due("the 120th", x.join(118, 0, 0), 119);
        due("a 121st", x.join(118, 0, 0), NONE);
        due("a 121st of the last", x.join(119, 119, 0), NONE);
        due("there is none", x.terms(120), NONE);
    }

    /** A part that a refused join had left behind would come into its place's next node. */
    private static void refusedJoinsChangeNothing() {
        promise("4 join: NONE [and no join]");
        NoneWords x = withTwoSentences();
        x.join(2, 3, 1);
        x.join(2, 4, 0);
        x.join(-1, 2, 0);
        twoSentencesStand(x);
        due("the next node", x.leaf(GONE, 1, 2, 0, 0), 4);
        CHECKS.written(x, 4, "b 1 is withdrawn.");
    }

    private static void terms() {
        promise("5 terms: Of a node: how many TERMS it has [none .. 5]");
        NoneWords x = Checks.withNames(4, 4, 4, 4, 4);
        due("of a leaf without", x.terms(asked(x, 0, 0)), 0);
        due("of a leaf with one", x.terms(gone(x, 0, 0)), 1);
        int wide = x.leaf(CONFLICT, 0, 1, 1, 1);
        due("of a leaf with two", x.terms(wide), 2);
        for (int name = 2; name < 5; name++) {
            wide = x.join(wide, x.leaf(CONFLICT, name, 1, name - 1, 1), name - 1);
            due("of a join", x.terms(wide), name + 1);
        }
        int nothing = x.join(gone(x, 0, 1), asked(x, 0, 1), 0);
        due("of a join without", x.terms(nothing), 0);
        promise("5 terms: NONE if there is none such");
        NoneWords y = withNodes(3);
        for (int node : Checks.outside(3)) {
            due("terms(" + node + ")", y.terms(node), NONE);
        }
        due("the first", y.terms(0), 1);
        due("the last", y.terms(2), 1);
    }

    private static void term() {
        promise("6 term: NONE if there is none such [node]");
        NoneWords x = withNodes(3);
        for (int node : Checks.outside(3)) {
            for (int what = 0; what < 3; what++) {
                due("node " + node + ", what " + what, x.term(node, 0, what), NONE);
            }
        }
        CHECKS.term(x, 2, 0, 0, 1, 1);
        promise("6 term: NONE if there is none such [TERM]");
        int pair = x.leaf(NEED, 1, 2, 0, 4);
        for (int i : Checks.outside(2)) {
            for (int what = 0; what < 3; what++) {
                due("i " + i + ", what " + what, x.term(pair, i, what), NONE);
            }
        }
        CHECKS.term(x, pair, 0, 0, 4, 0);
        CHECKS.term(x, pair, 1, 1, 2, 1);
        due("of a node without terms", x.term(asked(x, 0, 0), 0, 0), NONE);
        promise("6 term: NONE .. for another what");
        for (int what : Checks.outside(3)) {
            due("what " + what, x.term(pair, 0, what), NONE);
            due("what " + what + " of the last", x.term(pair, 1, what), NONE);
        }
        promise("6 term: 1 its SET [of NOT: the versions of which it isn't true]");
        due("a demand of all", x.term(asked(x, 1, 15), 0, 1), 15);
        promise("6 term: 2 1 if it is WANTED, else 0");
        due("an empty one that is WANTED", x.term(gone(x, 1, 0), 0, 2), 1);
        due("NOT with all versions", x.term(asked(x, 1, 15), 0, 2), 0);
    }

    private static void writing() {
        promise("7 write: how many SENTENCES [one at least]");
        NoneWords x = withNodes(118);
        due("a leaf without terms", x.write(asked(x, 0, 0)), 1);
        due("the first node", x.write(0), 1);
        due("the last node", x.write(x.join(0, 1, 0)), 1);
        promise("7 write: NONE if there is none such");
        NoneWords y = withNodes(3);
        for (int node : Checks.outside(3)) {
            due("write(" + node + ")", y.write(node), NONE);
            due("nothing is written", y.sentence(0), NONE);
        }
        promise("7 write: NONE .. (what was written before stays)");
        NoneWords z = withTwoSentences();
        for (int node : Checks.outside(4)) {
            due("write(" + node + ")", z.write(node), NONE);
        }
        twoSentencesStand(z);
        promise("7 write: A node is WRITTEN [what was written before is gone]");
        due("write(0)", z.write(0), 1);
        CHECKS.due("sentence 0", Checks.lineAndText(z, 0), "a 0 is withdrawn.");
        due("sentence 1", z.sentence(1), NONE);
    }

    private static void sentences() {
        promise("8 sentence: NONE if there is none such");
        NoneWords x = withNodes(2);
        due("before a writing", x.sentence(0), NONE);
        NoneWords y = withTwoSentences();
        for (int i : Checks.outside(2)) {
            due("sentence(" + i + ")", y.sentence(i), NONE);
        }
        promise("8 sentence: How many signs a SENTENCE has");
        due("the first", y.sentence(0), "Because a 0 is withdrawn and a 0 is withdrawn, a 0 can't be.".length());
        due("the last", y.sentence(1), "And because a 0 can't be (1), a 0 can't be.".length());
        y.write(0);
        due("the shortest", y.sentence(0), "a 0 is withdrawn.".length());
        promise("8 sentence: NONE if there is none such [by the latest writing]");
        due("the second is gone", y.sentence(1), NONE);
    }

    private static void letters() {
        promise("9 letter: NONE if there is none such [SENTENCE]");
        due("before a writing", withNodes(2).letter(0, 0), NONE);
        NoneWords x = withTwoSentences();
        for (int i : Checks.outside(2)) {
            due("letter(" + i + ", 0)", x.letter(i, 0), NONE);
        }
        promise("9 letter: NONE if there is none such [sign]");
        for (int i = 0; i < 2; i++) {
            for (int k : Checks.outside(x.sentence(i))) {
                due("letter(" + i + ", " + k + ")", x.letter(i, k), NONE);
            }
        }
        promise("9 letter: A sign of it [the first and the last]");
        for (int i = 0; i < 2; i++) {
            due("first of " + i, x.letter(i, 0), i == 0 ? 'B' : 'A');
            due("last of " + i, x.letter(i, x.sentence(i) - 1), '.');
        }
        promise("9 letter: NONE if there is none such [sign, by the latest writing]");
        int longer = x.sentence(0) - 1;
        x.write(0);
        due("behind the shorter one", x.letter(0, x.sentence(0)), NONE);
        due("where the longer one ended", x.letter(0, longer), NONE);
    }

    private static void lines() {
        promise("10 line: The NUMBER of a SENTENCE; 0 if it has none");
        NoneWords x = withTwoSentences();
        due("it has one", x.line(0), 1);
        due("it has none", x.line(1), 0);
        promise("10 line: 0 if .. there is none such");
        due("before a writing", withNodes(2).line(0), 0);
        for (int i : Checks.outside(2)) {
            due("line(" + i + ")", x.line(i), 0);
        }
        promise("10 line: 0 [of the latest writing]");
        x.write(2);
        due("the same sentence, not SHARED", x.line(0), 0);
        x.write(3);
        x.write(0);
        due("another sentence", x.line(0), 0);
    }

    private static void numbered() {
        promise("11 numbered: 0 if none");
        NoneWords x = withTwoSentences();
        due("a leaf", x.numbered(0), 0);
        due("the written one", x.numbered(3), 0);
        due("one that got 1", x.numbered(2), 1);
        due("a node that came later", x.numbered(x.join(3, 3, 0)), 0);
        promise("11 numbered: 0 if .. there is none such");
        for (int node : Checks.outside(5)) {
            due("numbered(" + node + ")", x.numbered(node), 0);
        }
        promise("11 numbered: 0 if none [of 120 nodes]");
        due("the last node before a writing", withNodes(120).numbered(119), 0);
        promise("11 numbered: The NUMBER that a node got by the latest writing");
        x.write(4);
        due("a part of the latest", x.numbered(3), 2);
        x.write(3);
        due("no part of the latest", x.numbered(3), 0);
        due("still a part", x.numbered(2), 1);
        promise("11 numbered: by the latest writing [a refused one is none]");
        due("write(9)", x.write(9), NONE);
        due("it stays", x.numbered(2), 1);
    }

    private static void solvable() {
        promise("12 solvable: Whether all LEAVES [there are none] are SOLVABLE");
        CHECKS.due("no names, no nodes", new NoneWords().solvable(), true);
        CHECKS.due("names, no nodes", Checks.withNames(0, 1, 2, 3, 4).solvable(), true);
        promise("12 solvable: Whether all LEAVES .. [no JOINS] are SOLVABLE");
        NoneWords x = Checks.withNames(2, 2);
        x.leaf(NEED, 0, 1, 1, 1);
        x.leaf(CONFLICT, 0, 2, 1, 2);
        x.join(0, 0, 1);
        x.join(0, 1, 0);
        CHECKS.due("leaves and joins", x.solvable(), true);
        promise("12 solvable: Whether all LEAVES [120 of them] are SOLVABLE");
        NoneWords y = withNodes(119);
        asked(y, 0, 1);
        CHECKS.due("the last one isn't", y.solvable(), false);
        NoneWords z = Checks.withNames(4, 4);
        asked(z, 1, 0);
        for (int node = 1; node < 120; node++) {
            gone(z, 0, 1);
        }
        CHECKS.due("the first one isn't", z.solvable(), false);
    }

    private static void least() {
        solvableHasNoLeast();
        theFirstAreLeftOut();
        thoseLeftOutBefore();
        onlyDemandsAreGoneThrough();
        joinsDontKeepWhatIsLeftOut();
        leastOfMany();
        leastChangesNoLeaf();
    }

    private static void solvableHasNoLeast() {
        promise("13 least: 0 if they are SOLVABLE");
        due("no leaves", new NoneWords().least(), 0);
        due("no demands", withNodes(3).least(), 0);
        NoneWords x = Checks.withNames(2);
        asked(x, 0, 3);
        asked(x, 0, 1);
        due("demands that can be met", x.least(), 0);
        due("none of them is told", x.demand(0), NONE);
    }

    private static void theFirstAreLeftOut() {
        promise("13 least: DEMANDS are gone through by number");
        NoneWords x = Checks.withNames(2);
        asked(x, 0, 1);
        asked(x, 0, 1);
        asked(x, 0, 2);
        asked(x, 0, 2);
        due("least", x.least(), 2);
        due("the second of two", x.demand(0), 1);
        due("the fourth", x.demand(1), 3);
    }

    private static void thoseLeftOutBefore() {
        promise("13 least: left out if without it (and those left out before) they aren't SOLVABLE");
        NoneWords x = Checks.withNames(1);
        asked(x, 0, 1);
        asked(x, 0, 1);
        gone(x, 0, 1);
        due("each could go alone, not both", x.least(), 1);
        due("the second stays", x.demand(0), 1);
        NoneWords y = Checks.withNames(4);
        asked(y, 0, 7);
        asked(y, 0, 11);
        asked(y, 0, 13);
        asked(y, 0, 14);
        due("none can go", y.least(), 4);
        due("the first", y.demand(0), 0);
        due("the last", y.demand(3), 3);
    }

    private static void onlyDemandsAreGoneThrough() {
        promise("13 least: DEMANDS [no other LEAVES, no JOINS]");
        NoneWords x = Checks.withNames(1, 1);
        gone(x, 1, 1);
        gone(x, 1, 1);
        x.leaf(NEED, 0, 1, 1, 1);
        x.leaf(CONFLICT, 0, 1, 1, 1);
        x.join(0, 1, 1);
        int demand = asked(x, 0, 1);
        due("least", x.least(), 1);
        due("the demand", x.demand(0), demand);
        due("no other", x.demand(1), NONE);
    }

    /** What a join claims stands without its leaves too, so it must not count. */
    private static void joinsDontKeepWhatIsLeftOut() {
        promise("13 least: If they aren't [LEAVES, no JOINS]");
        NoneWords x = nothingIsLeft();
        due("least", x.least(), 1);
        due("the demand", x.demand(0), 1);
    }

    private static void leastOfMany() {
        promise("13 least: how many stay [of 120]");
        NoneWords x = Checks.withNames(1);
        for (int node = 0; node < 120; node++) {
            asked(x, 0, 0);
        }
        due("least", x.least(), 1);
        due("the last node", x.demand(0), 119);
        promise("13 least: how many stay [the first node, though 119 come behind it]");
        NoneWords y = Checks.withNames(1, 1);
        asked(y, 1, 0);
        for (int node = 1; node < 120; node++) {
            asked(y, 0, 1);
        }
        due("least", y.least(), 1);
        due("the first node", y.demand(0), 0);
    }

    /** The left-out demand stands between the gone one and a world, and behind the gone one. */
    private static void leastChangesNoLeaf() {
        promise("13 least: left out [while it goes through them only]");
        NoneWords x = Checks.withNames(2);
        gone(x, 0, 2);
        asked(x, 0, 1);
        asked(x, 0, 2);
        due("least", x.least(), 1);
        due("the first demand is left out", x.demand(0), 2);
        CHECKS.due("solvable", x.solvable(), false);
        due("it is back: the gone one is no hint", x.hint(0), 2);
        due("there is no other", x.hint(1), NONE);
        promise("13 least: left out [while it goes through them only; the last of 120 nodes]");
        NoneWords z = Checks.withNames(2, 1);
        gone(z, 0, 1);
        asked(z, 0, 1);
        for (int node = 2; node < 119; node++) {
            gone(z, 1, 1);
        }
        asked(z, 0, 2);
        due("least", z.least(), 1);
        due("the last demand is left out", z.demand(0), 1);
        due("it is back: the gone one is no hint", z.hint(0), 1);
        due("there is no other", z.hint(1), NONE);
        promise("13 least: those left out before [not by another least()]");
        NoneWords y = Checks.withNames(4);
        asked(y, 0, 3);
        asked(y, 0, 5);
        asked(y, 0, 12);
        due("least", y.least(), 2);
        due("the first stays", y.demand(0), 0);
        due("the second is left out", y.demand(1), 2);
        asked(y, 0, 10);
        due("the next least", y.least(), 2);
        due("the second is back and stays", y.demand(0), 1);
        due("instead of the first", y.demand(1), 3);
    }

    private static void demands() {
        promise("14 demand: NONE if there is none such [before the first least]");
        NoneWords x = Checks.withNames(2);
        asked(x, 0, 1);
        asked(x, 0, 2);
        due("demand(0)", x.demand(0), NONE);
        promise("14 demand: NONE if there is none such [least answered 0]");
        NoneWords y = Checks.withNames(2);
        asked(y, 0, 1);
        y.least();
        due("demand(0)", y.demand(0), NONE);
        promise("14 demand: NONE if there is none such");
        x.least();
        for (int i : Checks.outside(2)) {
            due("demand(" + i + ")", x.demand(i), NONE);
        }
        due("the first", x.demand(0), 0);
        due("the last", x.demand(1), 1);
        promise("14 demand: that stayed in the latest least()");
        asked(x, 0, 0);
        due("leaves that came later change nothing", x.demand(1), 1);
        x.hint(0);
        x.solvable();
        due("nor do other searches", x.demand(1), 1);
        due("the next least", x.least(), 1);
        due("it counts", x.demand(0), 2);
        due("those before are gone", x.demand(1), NONE);
    }

    private static void hints() {
        soAlready();
        noSuchHint();
        hintsInOrder();
        noHintsOfNeeds();
        withoutOneAlone();
        noHintsAgainstJoins();
        asByNow();
        hintsOfTheFirstAndTheLastNode();
    }

    private static void soAlready() {
        promise("15 hint: NONE if .. they are so already");
        due("no leaves", new NoneWords().hint(0), NONE);
        NoneWords x = Checks.withNames(2);
        asked(x, 0, 3);
        gone(x, 0, 1);
        due("leaves that are SOLVABLE", x.hint(0), NONE);
    }

    private static void noSuchHint() {
        promise("15 hint: NONE if there is none such");
        NoneWords x = Checks.withNames(1);
        asked(x, 0, 1);
        gone(x, 0, 1);
        for (int i : Checks.outside(2)) {
            due("hint(" + i + ")", x.hint(i), NONE);
        }
        due("the first", x.hint(0), 0);
        due("the last", x.hint(1), 1);
    }

    private static void hintsInOrder() {
        promise("15 hint: The i-th LEAF, in order, of KIND 0, 2 or 3");
        NoneWords x = Checks.withNames(2, 1);
        x.leaf(CONFLICT, 0, 1, 1, 1);
        gone(x, 0, 2);
        asked(x, 1, 1);
        asked(x, 0, 3);
        for (int i = 0; i < 4; i++) {
            due("hint(" + i + ")", x.hint(i), i);
        }
        due("hint(4)", x.hint(4), NONE);
    }

    private static void noHintsOfNeeds() {
        promise("15 hint: of KIND 0, 2 or 3 [no NEED]");
        NoneWords x = Checks.withNames(1, 1);
        x.leaf(NEED, 0, 1, 1, 1);
        gone(x, 1, 1);
        asked(x, 0, 1);
        due("hint(0)", x.hint(0), 1);
        due("hint(1)", x.hint(1), 2);
        due("hint(2)", x.hint(2), NONE);
        NoneWords y = Checks.withNames(1, 1);
        asked(y, 0, 1);
        asked(y, 0, 1);
        gone(y, 1, 1);
        gone(y, 1, 1);
        y.leaf(NEED, 0, 1, 1, 1);
        due("a need alone would do", y.hint(0), NONE);
    }

    private static void withoutOneAlone() {
        promise("15 hint: without which alone the LEAVES are SOLVABLE");
        NoneWords x = Checks.withNames(1, 1);
        asked(x, 0, 1);
        gone(x, 0, 1);
        asked(x, 1, 0);
        due("two at once had to go", x.hint(0), NONE);
        NoneWords y = Checks.withNames(1);
        asked(y, 0, 1);
        asked(y, 0, 1);
        gone(y, 0, 1);
        due("one that does alone", y.hint(0), 2);
        due("no other does", y.hint(1), NONE);
    }

    private static void noHintsAgainstJoins() {
        promise("15 hint: the LEAVES are SOLVABLE [LEAVES, no JOINS]");
        NoneWords x = nothingIsLeft();
        due("the gone one", x.hint(0), 0);
        due("the demand", x.hint(1), 1);
        due("not the join", x.hint(2), NONE);
    }

    private static void asByNow() {
        promise("15 hint: as by now");
        NoneWords x = Checks.withNames(2);
        asked(x, 0, 1);
        due("so already", x.hint(0), NONE);
        gone(x, 0, 1);
        due("the demand", x.hint(0), 0);
        due("the gone one", x.hint(1), 1);
        asked(x, 0, 1);
        due("the gone one only", x.hint(0), 1);
        due("no other", x.hint(1), NONE);
        gone(x, 0, 1);
        due("none does alone", x.hint(0), NONE);
        CHECKS.due("nothing is left out for good", x.solvable(), false);
    }

    private static void hintsOfTheFirstAndTheLastNode() {
        promise("15 hint: The i-th LEAF [of 120 nodes]");
        NoneWords x = Checks.withNames(2, 1);
        asked(x, 0, 1);
        for (int node = 1; node < 119; node++) {
            gone(x, 1, 1);
        }
        gone(x, 0, 1);
        due("the first node", x.hint(0), 0);
        due("the last node", x.hint(1), 119);
        due("no other", x.hint(2), NONE);
        promise("15 hint: The i-th LEAF [119 of 120 nodes]");
        NoneWords y = Checks.withNames(1);
        for (int node = 0; node < 119; node++) {
            asked(y, 0, 1);
        }
        gone(y, 0, 1);
        due("the last node alone", y.hint(0), 119);
        due("no other", y.hint(1), NONE);
    }
}
