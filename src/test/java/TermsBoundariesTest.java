/**
 * Each sentence of the document's first section and of "Terms" that names a boundary case, with a
 * test of its own: the words of the sentence, and runs on new objects that it decides. In
 * square brackets: the case, where the words don't tell it.
 */
public final class TermsBoundariesTest {
    private static final int NONE = NoneWords.NONE;
    private static final int DEMAND = 0;
    private static final int NEED = 1;
    private static final int GONE = 2;
    private static final int CONFLICT = 3;

    private static final Checks CHECKS = new Checks();

    public static void main(String[] args) {
        sets();
        worlds();
        termsAndNodes();
        joins();
        words();
        wordsOfLeaves();
        wordsOfJoins();
        sharedAndSimple();
        numbers();
        the512thCall();
        CHECKS.end("TermsBoundariesTest");
    }

    private static void promise(String words) {
        CHECKS.promise(words);
    }

    private static void due(String call, long got, long want) {
        CHECKS.due(call, got, want);
    }

    private static int asked(NoneWords x, int name, int set) {
        return x.leaf(DEMAND, name, set, 0, 0);
    }

    private static int gone(NoneWords x, int name, int set) {
        return x.leaf(GONE, name, set, 0, 0);
    }

    /** The term of the name 0 that is due for a told set, wherever a leaf of some kind can have it. */
    private static void setInEveryPlace(NoneWords x, int told, int set) {
        int wanted = gone(x, 0, told);
        CHECKS.term(x, wanted, 0, 0, set, 1);
        int first = x.leaf(NEED, 0, told, 1, 1);
        CHECKS.term(x, first, 0, 0, set, 1);
        int second = x.leaf(CONFLICT, 1, 1, 0, told);
        CHECKS.term(x, second, 0, 0, set, 1);
        int demand = asked(x, 0, told);
        int needed = x.leaf(NEED, 1, 1, 0, told);
        due("terms of a demand", x.terms(demand), set == 0 ? 0 : 1);
        due("terms of a need", x.terms(needed), set == 0 ? 1 : 2);
        if (set != 0) {
            CHECKS.term(x, demand, 0, 0, set, 0);
            CHECKS.term(x, needed, 0, 0, set, 0);
        }
    }

    private static void sets() {
        namesAreFiveLetters();
        theLastVersionIsThree();
        otherBitsMeanNothing();
        versionsThatArentThere();
    }

    private static void namesAreFiveLetters() {
        promise("NAMES, at most 5 (a, b, .. as letters)");
        NoneWords x = new NoneWords();
        for (int name = 0; name < 5; name++) {
            due("name " + name, x.name(1), name);
        }
        due("a sixth", x.name(1), NONE);
        for (int name = 0; name < 5; name++) {
            CHECKS.written(x, gone(x, name, 1), "abcde".charAt(name) + " is withdrawn.");
        }
        due("a leaf of a sixth", gone(x, 5, 1), NONE);
    }

    private static void theLastVersionIsThree() {
        promise("have VERSIONS 0 .. up to 3");
        NoneWords x = Checks.withNames(4);
        gone(x, 0, 7);
        asked(x, 0, 15);
        CHECKS.due("version 3 is left", x.solvable(), true);
        CHECKS.written(x, gone(x, 0, 8), "a 3 is withdrawn.");
        CHECKS.due("nothing is left", x.solvable(), false);
        NoneWords y = Checks.withNames(3);
        gone(y, 0, 7);
        asked(y, 0, 15);
        CHECKS.due("there is no version 3", y.solvable(), false);
    }

    private static void otherBitsMeanNothing() {
        promise("a SET is bits 0 .. 3 (others mean nothing");
        int[] told = {16, 31, 32, -16, -11, -1, Integer.MIN_VALUE, Integer.MIN_VALUE + 6,
            Integer.MAX_VALUE, Integer.MAX_VALUE - 15, 1 << 30, 0x55555555};
        for (int set : told) {
            setInEveryPlace(Checks.withNames(4, 4), set, set & 15);
        }
        NoneWords x = Checks.withNames(4, 4);
        CHECKS.written(x, x.leaf(CONFLICT, 0, 16 + 3, 1, -16), "a 0-1 excludes no b.");
        asked(x, 0, -16);
        CHECKS.due("bits 4 and on can't be had", x.solvable(), false);
    }

    private static void versionsThatArentThere() {
        promise("versions that aren't there are never in it)");
        for (int versions = 0; versions <= 4; versions++) {
            for (int set = 0; set < 16; set++) {
                setInEveryPlace(Checks.withNames(versions, 4), set, set & ((1 << versions) - 1));
            }
        }
        NoneWords x = Checks.withNames(2);
        CHECKS.written(x, gone(x, 0, 14), "a 1 is withdrawn.");
    }

    private static void worlds() {
        aVersionOrNone();
        oneVersionOnly();
        noVersionsAtAll();
        solvableWithoutLeaves();
        eachLeafHasATermThatIsntTrue();
    }

    private static void aVersionOrNone() {
        promise("A WORLD gives each name .. none");
        NoneWords x = Checks.withNames(4, 4);
        gone(x, 0, 15);
        x.leaf(NEED, 1, 15, 0, 15);
        x.leaf(CONFLICT, 0, 15, 1, 15);
        CHECKS.due("none of both", x.solvable(), true);
    }

    private static void oneVersionOnly() {
        promise("A WORLD gives each name one of its versions");
        for (int version = 0; version < 4; version++) {
            NoneWords x = Checks.withNames(4);
            asked(x, 0, 1 << version);
            CHECKS.due("version " + version, x.solvable(), true);
            asked(x, 0, 15 & ~(1 << version));
            CHECKS.due("and another one at once", x.solvable(), false);
        }
    }

    private static void noVersionsAtAll() {
        promise("A WORLD gives each name one of its versions, or none [a name with 0 versions]");
        NoneWords x = Checks.withNames(0, 1);
        gone(x, 0, 15);
        x.leaf(CONFLICT, 0, 15, 1, 15);
        asked(x, 1, 1);
        CHECKS.due("it has none", x.solvable(), true);
        x.leaf(NEED, 1, 1, 0, 15);
        CHECKS.due("it has no version", x.solvable(), false);
    }

    private static void solvableWithoutLeaves() {
        promise("SOLVABLE are LEAVES, if in some WORLD each [there are none]");
        CHECKS.due("no names", new NoneWords().solvable(), true);
        CHECKS.due("a name without versions", Checks.withNames(0).solvable(), true);
        CHECKS.due("five names", Checks.withNames(4, 4, 4, 4, 4).solvable(), true);
    }

    private static void eachLeafHasATermThatIsntTrue() {
        promise("SOLVABLE are LEAVES, if in some WORLD each has a TERM that isn't true [it has none]");
        NoneWords x = Checks.withNames(4);
        asked(x, 0, 0);
        CHECKS.due("a leaf without terms", x.solvable(), false);
        NoneWords y = Checks.withNames(4);
        gone(y, 0, 0);
        asked(y, 0, 15);
        CHECKS.due("a term that never is true", y.solvable(), true);
    }

    private static void termsAndNodes() {
        wantedWithAnEmptySet();
        notWithAllVersions();
        notWithAnEmptySetIsFull();
        fullOnesOfLeavesFallAway();
        sortedByNames();
        atMostOneTermOfEachName();
        nodesAreNumberedFromZero();
        atMost120Nodes();
    }

    private static void wantedWithAnEmptySet() {
        promise("WANTED: it has a version of the SET [the SET is empty]");
        NoneWords x = Checks.withNames(4, 0);
        CHECKS.term(x, gone(x, 0, 0), 0, 0, 0, 1);
        CHECKS.term(x, gone(x, 1, 15), 0, 1, 0, 1);
        due("terms of a conflict", x.terms(x.leaf(CONFLICT, 0, 0, 1, 0)), 2);
    }

    private static void notWithAllVersions() {
        promise("NOT: it hasn't [all versions are in the SET]");
        NoneWords x = Checks.withNames(4, 1);
        CHECKS.term(x, asked(x, 0, 15), 0, 0, 15, 0);
        CHECKS.term(x, asked(x, 1, 1), 0, 1, 1, 0);
        CHECKS.due("a version can be had", x.solvable(), true);
        gone(x, 0, 15);
        CHECKS.due("none isn't a version", x.solvable(), false);
    }

    private static void notWithAnEmptySetIsFull() {
        promise("One that is always true is FULL (NOT with an empty SET)");
        for (int versions = 0; versions <= 4; versions++) {
            NoneWords x = Checks.withNames(versions);
            int demand = asked(x, 0, 0);
            due("terms", x.terms(demand), 0);
            due("its first term", x.term(demand, 0, 0), NONE);
        }
        NoneWords none = Checks.withNames(0);
        due("all versions of a name without any", none.terms(asked(none, 0, 15)), 0);
    }

    private static void fullOnesOfLeavesFallAway() {
        promise("LEAVES, of KINDS: .. (FULL ones fall away.)");
        NoneWords x = Checks.withNames(2, 2);
        int need = x.leaf(NEED, 1, 2, 0, 0);
        due("terms", x.terms(need), 1);
        CHECKS.term(x, need, 0, 1, 2, 1);
        due("a second term", x.term(need, 1, 0), NONE);
        int empty = x.leaf(NEED, 1, 0, 0, 0);
        due("what is WANTED stays, empty or not", x.terms(empty), 1);
        CHECKS.term(x, empty, 0, 1, 0, 1);
    }

    private static void sortedByNames() {
        promise("A NODE has .. TERMS .. sorted by names");
        NoneWords x = Checks.withNames(4, 4, 4, 4, 4);
        int last = x.leaf(CONFLICT, 4, 1, 0, 2);
        CHECKS.term(x, last, 0, 0, 2, 1);
        CHECKS.term(x, last, 1, 4, 1, 1);
        int need = x.leaf(NEED, 3, 4, 1, 8);
        CHECKS.term(x, need, 0, 1, 8, 0);
        CHECKS.term(x, need, 1, 3, 4, 1);
        int join = x.join(last, x.leaf(NEED, 4, 2, 2, 1), 4);
        CHECKS.term(x, join, 0, 0, 2, 1);
        CHECKS.term(x, join, 1, 2, 1, 0);
        CHECKS.term(x, join, 2, 4, 3, 1);
    }

    private static void atMostOneTermOfEachName() {
        promise("A NODE has at most one TERM of each name");
        NoneWords x = Checks.withNames(4, 4, 4, 4, 4);
        int wide = x.leaf(CONFLICT, 0, 1, 1, 1);
        for (int name = 2; name < 5; name++) {
            wide = x.join(x.leaf(CONFLICT, name - 1, 2, name, 1), wide, name - 1);
            due("terms", x.terms(wide), name + 1);
        }
        int again = x.join(wide, wide, 0);
        due("five names, five terms", x.terms(again), 5);
        for (int name = 0; name < 5; name++) {
            CHECKS.term(x, again, name, name, name == 0 || name == 4 ? 1 : 3, 1);
        }
        due("a sixth term", x.term(again, 5, 0), NONE);
    }

    private static void nodesAreNumberedFromZero() {
        promise("NODES .. numbered from 0");
        NoneWords x = Checks.withNames(1);
        due("the first leaf", gone(x, 0, 1), 0);
        due("a leaf", gone(x, 0, 1), 1);
        due("a join", x.join(1, 0, 0), 2);
        due("a leaf behind it", gone(x, 0, 1), 3);
    }

    private static void atMost120Nodes() {
        promise("NODES, at most 120");
        NoneWords x = Checks.withNames(1);
        for (int node = 0; node < 120; node++) {
            due("node " + node, node % 3 == 1 ? x.join(node - 1, 0, 0) : gone(x, 0, 1), node);
        }
        due("a 121st leaf", gone(x, 0, 1), NONE);
        due("a 121st join", x.join(118, 119, 0), NONE);
        due("the last one is there", x.terms(119), 1);
        due("none behind it", x.terms(120), NONE);
    }

    private static void joins() {
        whereOneOfBothIs();
        fullOnesOfJoinsFallAway();
        thatWhichOneHas();
        whereBothAre();
        trueOfNoneIsNot();
        elseWanted();
    }

    private static void whereOneOfBothIs() {
        promise("A JOIN .. of that name what is true where one of both TERMS is");
        NoneWords x = Checks.withNames(4);
        CHECKS.term(x, x.join(gone(x, 0, 3), gone(x, 0, 12), 0), 0, 0, 15, 1);
        CHECKS.term(x, x.join(gone(x, 0, 0), gone(x, 0, 0), 0), 0, 0, 0, 1);
        CHECKS.term(x, x.join(asked(x, 0, 15), gone(x, 0, 1), 0), 0, 0, 14, 0);
        CHECKS.term(x, x.join(gone(x, 0, 7), asked(x, 0, 15), 0), 0, 0, 8, 0);
        CHECKS.term(x, x.join(asked(x, 0, 15), asked(x, 0, 1), 0), 0, 0, 1, 0);
    }

    private static void fullOnesOfJoinsFallAway() {
        promise("A JOIN .. FULL ones fall away");
        NoneWords x = Checks.withNames(4, 4);
        due("wanted or not", x.terms(x.join(gone(x, 0, 15), asked(x, 0, 15), 0)), 0);
        due("wanted more than is not", x.terms(x.join(gone(x, 0, 7), asked(x, 0, 3), 0)), 0);
        due("not or not, of other versions", x.terms(x.join(asked(x, 0, 3), asked(x, 0, 12), 0)), 0);
        int other = x.join(asked(x, 0, 3), x.leaf(CONFLICT, 0, 3, 1, 4), 0);
        due("the other name stays", x.terms(other), 1);
        CHECKS.term(x, other, 0, 1, 4, 1);
        due("the name is no longer there", x.join(other, other, 0), NONE);
    }

    private static void thatWhichOneHas() {
        promise("A JOIN .. of each other name that which one has");
        NoneWords x = Checks.withNames(4, 4, 4);
        int need = x.leaf(NEED, 1, 1, 0, 15);
        int conflict = x.leaf(CONFLICT, 1, 2, 2, 0);
        int[] joins = {x.join(need, conflict, 1), x.join(conflict, need, 1)};
        for (int join : joins) {
            due("terms", x.terms(join), 3);
            CHECKS.term(x, join, 0, 0, 15, 0);
            CHECKS.term(x, join, 1, 1, 3, 1);
            CHECKS.term(x, join, 2, 2, 0, 1);
        }
    }

    private static void whereBothAre() {
        promise("A JOIN .. or what is true where both are");
        NoneWords x = Checks.withNames(1, 4);
        int low = x.leaf(CONFLICT, 0, 1, 1, 3);
        int high = x.leaf(CONFLICT, 0, 1, 1, 12);
        int apart = x.join(low, high, 0);
        due("what never is true stays", x.terms(apart), 2);
        CHECKS.term(x, apart, 1, 1, 0, 1);
        CHECKS.term(x, x.join(low, x.leaf(CONFLICT, 0, 1, 1, 10), 0), 1, 1, 2, 1);
        CHECKS.term(x, x.join(x.leaf(NEED, 0, 1, 1, 15), high, 0), 1, 1, 0, 1);
        CHECKS.term(x, x.join(high, x.leaf(NEED, 0, 1, 1, 4), 0), 1, 1, 8, 1);
    }

    private static void trueOfNoneIsNot() {
        promise("(What is true of none is NOT, with the versions of which it isn't");
        NoneWords x = Checks.withNames(1, 4);
        int low = x.leaf(NEED, 0, 1, 1, 3);
        int high = x.leaf(NEED, 0, 1, 1, 12);
        CHECKS.term(x, x.join(low, high, 0), 1, 1, 15, 0);
        CHECKS.term(x, x.join(low, low, 0), 1, 1, 3, 0);
        CHECKS.term(x, x.join(low, gone(x, 1, 1), 1), 1, 1, 2, 0);
    }

    private static void elseWanted() {
        promise("What is true of none is NOT ..; else WANTED.)");
        NoneWords x = Checks.withNames(4, 0);
        CHECKS.term(x, x.join(gone(x, 0, 7), gone(x, 0, 8), 0), 0, 0, 15, 1);
        CHECKS.term(x, x.join(gone(x, 0, 0), gone(x, 0, 0), 0), 0, 0, 0, 1);
        CHECKS.term(x, x.join(gone(x, 1, 1), gone(x, 1, 1), 1), 0, 1, 0, 1);
    }

    private static void words() {
        promise("WORDS of a name with a SET: \"no a\" if it is empty");
        for (int versions = 0; versions <= 4; versions++) {
            NoneWords x = Checks.withNames(versions);
            CHECKS.written(x, gone(x, 0, 0), "no a is withdrawn.");
            CHECKS.written(x, gone(x, 0, 15 << versions), "no a is withdrawn.");
        }
        promise("WORDS .. \"a\" if all versions are in it");
        for (int versions = 1; versions <= 4; versions++) {
            NoneWords x = Checks.withNames(versions);
            CHECKS.written(x, gone(x, 0, 15), "a is withdrawn.");
            CHECKS.written(x, gone(x, 0, (1 << versions) - 1), "a is withdrawn.");
        }
        promise("WORDS .. else \"a 0-1,3\": a blank and runs, a comma between");
        String[] runs = {"", "0", "1", "0-1", "2", "0,2", "1-2", "0-2", "3", "0,3", "1,3", "0-1,3", "2-3",
            "0,2-3", "1-3"};
        for (int versions = 2; versions <= 4; versions++) {
            NoneWords x = Checks.withNames(versions);
            for (int set = 1; set < (1 << versions) - 1; set++) {
                CHECKS.written(x, gone(x, 0, set), "a " + runs[set] + " is withdrawn.");
            }
        }
    }

    private static void wordsOfLeaves() {
        promise("Of LEAVES: .. of SETS as they were told [a FULL TERM fell away]");
        NoneWords x = Checks.withNames(2, 2, 0);
        CHECKS.written(x, asked(x, 0, 0), "no a is asked for.");
        CHECKS.written(x, asked(x, 2, 15), "no c is asked for.");
        CHECKS.written(x, x.leaf(NEED, 0, 3, 1, 0), "a needs no b.");
        promise("Of LEAVES: .. as they were told [not as TERMS are sorted]");
        CHECKS.written(x, x.leaf(NEED, 1, 1, 0, 2), "b 0 needs a 1.");
        CHECKS.written(x, x.leaf(CONFLICT, 1, 3, 0, 1), "b excludes a 0.");
        promise("A LEAF: its WORDS and a point");
        CHECKS.written(x, x.leaf(CONFLICT, 0, 0, 1, 0), "no a excludes no b.");
    }

    /** Joins of leaves with themselves have the terms of the leaf, so that their words can be told. */
    private static void wordsOfJoins() {
        NoneWords x = Checks.withNames(4, 4, 4, 4, 4);
        promise("Of JOINS, by their TERMS: none: \"nothing is left\"");
        concluded(x, x.join(gone(x, 0, 15), asked(x, 0, 1), 0), "nothing is left.");
        promise("No NOT: .. \" can't be\" (one)");
        concluded(x, twice(x, gone(x, 0, 1), 0), "a 0 can't be.");
        promise("No NOT: .. \" can't both be\" (two)");
        int conflict = x.leaf(CONFLICT, 0, 0, 1, 15);
        concluded(x, twice(x, conflict, 0), "no a and b can't both be.");
        promise("No NOT: .. \" can't all be\"");
        int three = x.join(conflict, x.leaf(CONFLICT, 1, 1, 2, 2), 1);
        concluded(x, three, "no a and b and c 1 can't all be.");
        int four = x.join(three, x.leaf(CONFLICT, 2, 1, 3, 4), 2);
        concluded(x, four, "no a and b and c 0-1 and d 2 can't all be.");
        int five = x.join(four, x.leaf(CONFLICT, 3, 1, 4, 8), 3);
        concluded(x, five, "no a and b and c 0-1 and d 0,2 and e 3 can't all be.");
        promise("No WANTED: the WORDS with \" or \" between, \" must be\"");
        concluded(x, twice(x, asked(x, 1, 2), 1), "b 1 must be.");
        int aNeedsB = x.leaf(NEED, 0, 15, 1, 2);
        int needs = x.join(x.leaf(NEED, 0, 15, 2, 15), aNeedsB, 0);
        concluded(x, x.join(asked(x, 0, 15), needs, 0), "b 1 or c must be.");
        promise("Else WANTED ones .. \" means \" (one)");
        concluded(x, twice(x, aNeedsB, 0), "a means b 1.");
        concluded(x, needs, "a means b 1 or c.");
        promise("Else WANTED ones .. or \" mean \"");
        concluded(x, x.join(aNeedsB, x.leaf(CONFLICT, 0, 1, 4, 2), 0), "a and e 1 mean b 1.");
        concluded(x, x.join(needs, x.leaf(CONFLICT, 0, 1, 4, 2), 0), "a and e 1 mean b 1 or c.");
    }

    private static int twice(NoneWords x, int node, int name) {
        return x.join(node, node, name);
    }

    private static void concluded(NoneWords x, int node, String words) {
        int last = x.write(node) - 1;
        String text = Checks.text(x, last);
        CHECKS.due("the end of " + node, text.substring(text.lastIndexOf(", ") + 2), words);
    }

    private static void sharedAndSimple() {
        sharedByTwoJoins();
        sharedByOneAsBoth();
        sharedByOneAlone();
        sharedByOthersThanTheWrittenOneIsMadeOf();
        aLeafIsNeverShared();
        simpleOfOneLeafTwice();
    }

    private static void sharedByTwoJoins() {
        promise("SHARED is a JOIN that comes into two JOINS or more");
        NoneWords x = Checks.withNames(4);
        int simple = x.join(gone(x, 0, 1), gone(x, 0, 2), 0);
        int more = x.join(simple, gone(x, 0, 4), 0);
        x.write(more);
        due("into one", x.numbered(simple), 0);
        int two = x.join(more, simple, 0);
        x.write(two);
        due("into two, one of them the written one", x.numbered(simple), 1);
        int three = x.join(two, simple, 0);
        x.write(three);
        due("into three", x.numbered(simple), 1);
    }

    private static void sharedByOneAsBoth() {
        promise("SHARED is a JOIN that comes .. into one as both");
        NoneWords x = Checks.withNames(4);
        int simple = x.join(gone(x, 0, 1), gone(x, 0, 2), 0);
        CHECKS.written(x, x.join(simple, simple, 0),
            "[1] Because a 0 is withdrawn and a 1 is withdrawn, a 0-1 can't be.",
            "And because a 0-1 can't be (1), a 0-1 can't be.");
    }

    private static void sharedByOneAlone() {
        promise("SHARED is a JOIN that comes into two [the written one comes into none]");
        NoneWords x = Checks.withNames(4);
        int simple = x.join(gone(x, 0, 1), gone(x, 0, 2), 0);
        x.write(simple);
        due("the written one", x.numbered(simple), 0);
        due("its sentence", x.line(0), 0);
    }

    private static void sharedByOthersThanTheWrittenOneIsMadeOf() {
        promise("SHARED .. of those that the written one is made of");
        NoneWords x = Checks.withNames(4);
        int simple = x.join(gone(x, 0, 1), gone(x, 0, 2), 0);
        int more = x.join(simple, gone(x, 0, 4), 0);
        x.join(simple, simple, 0);
        x.join(simple, more, 0);
        x.join(more, more, 0);
        x.write(more);
        due("a part of others", x.numbered(simple), 0);
        due("the written one, a part of others", x.numbered(more), 0);
    }

    private static void aLeafIsNeverShared() {
        promise("SHARED is a JOIN [no LEAF]");
        NoneWords x = Checks.withNames(4);
        int leaf = gone(x, 0, 1);
        int one = x.join(leaf, leaf, 0);
        CHECKS.written(x, x.join(one, leaf, 0),
            "Because a 0 is withdrawn and a 0 is withdrawn, a 0 can't be.",
            "And because a 0 is withdrawn, a 0 can't be.");
        due("a leaf that comes in thrice", x.numbered(leaf), 0);
        x.write(leaf);
        due("the written leaf", x.numbered(leaf), 0);
    }

    private static void simpleOfOneLeafTwice() {
        promise("SIMPLE is a JOIN of two LEAVES");
        NoneWords x = Checks.withNames(4);
        int leaf = gone(x, 0, 1);
        int simple = x.join(leaf, leaf, 0);
        int longer = x.join(x.join(gone(x, 0, 2), gone(x, 0, 4), 0), gone(x, 0, 8), 0);
        CHECKS.written(x, x.join(simple, longer, 0),
            "Because a 1 is withdrawn and a 2 is withdrawn, a 1-2 can't be.",
            "And because a 3 is withdrawn, a 1-3 can't be.",
            "Because a 0 is withdrawn and a 0 is withdrawn, a 0 can't be.",
            "Thus, a can't be.");
        due("the first one has no number", x.numbered(longer), 0);
    }

    private static void numbers() {
        promise("NUMBERS are given from 1 on");
        NoneWords x = chain(119);
        due("sentences", x.write(119), 119);
        for (int node = 1; node <= 118; node++) {
            due("node " + node, x.numbered(node), node);
        }
        promise("each is that of the SENTENCE written last");
        for (int i = 0; i < 118; i++) {
            due("line " + i, x.line(i), i + 1);
        }
        due("the last line", x.line(118), 0);
        promise("A node that has a NUMBER is told with \" (\" it \")\" behind its WORDS");
        for (int number : new int[] {1, 9, 10, 11, 99, 100, 101, 118}) {
            CHECKS.due("the sentence behind " + number, Checks.text(x, number),
                "And because a can't be (" + number + "), a can't be.");
        }
        promise("NUMBERS are given from 1 on [by each writing]");
        x.write(3);
        due("the first", x.numbered(1), 1);
        due("the second", x.numbered(2), 2);
    }

    /** Each join is of the one before as both. */
    private static NoneWords chain(int joins) {
        NoneWords x = Checks.withNames(1);
        gone(x, 0, 1);
        for (int node = 0; node < joins; node++) {
            x.join(node, node, 0);
        }
        return x;
    }

    private static void the512thCall() {
        promise("An object is used for at most 512 calls after it has been made");
        NoneWords x = Checks.withNames(1);
        int calls = 1;
        for (; calls < 120; calls++) {
            asked(x, 0, 1);
        }
        gone(x, 0, 1);
        calls++;
        for (; calls < 510; calls++) {
            due("call " + (calls + 1), x.write(calls % 120), 1);
        }
        due("the 511th", x.least(), 1);
        due("the 512th", x.hint(0), 119);
    }
}
