/** The words of leaves and joins, and each rule of writing, sentence by sentence. */
public final class WritingTest {
    private static final Checks CHECKS = new Checks();

    public static void main(String[] args) {
        wordsOfLeaves();
        wordsOfJoins();
        aLeafAndANumberedJoin();
        aJoinThatIsPassedOver();
        aJoinThatIsPassedOverOnEitherSide();
        aSharedJoinIsNotPassedOver();
        anInnerJoinWithANumber();
        oneOfTwoJoinsSimple();
        bothJoinsSimple();
        noneOfTwoJoinsSimple();
        theSecondGetsItsNumberMeanwhile();
        oneOfTwoJoinsNumbered();
        oneOfTwoLongJoinsNumbered();
        bothJoinsNumbered();
        sharedOnlyInsideTheWrittenOne();
        CHECKS.end("WritingTest");
    }

    private static void written(NoneWords x, int node, String... sentences) {
        CHECKS.written(x, node, sentences);
    }

    private static int gone(NoneWords x, int name, int set) {
        return x.leaf(2, name, set, 0, 0);
    }

    private static int asked(NoneWords x, int name, int set) {
        return x.leaf(0, name, set, 0, 0);
    }

    private static void wordsOfLeaves() {
        CHECKS.promise("WORDS of LEAVES");
        NoneWords x = Checks.withNames(4, 4, 4, 4, 4);
        written(x, asked(x, 4, 6), "e 1-2 is asked for.");
        written(x, asked(x, 3, 0), "no d is asked for.");
        written(x, x.leaf(1, 3, 9, 1, 0), "d 0,3 needs no b.");
        written(x, x.leaf(1, 2, 15, 0, 3), "c needs a 0-1.");
        written(x, x.leaf(3, 4, 1, 2, 2), "e 0 excludes c 1.");
        written(x, x.leaf(3, 0, 0, 1, 0), "no a excludes no b.");
    }

    private static void wordsOfJoins() {
        CHECKS.promise("WORDS of JOINS");
        NoneWords x = Checks.withNames(2, 2, 2, 2, 2);
        int aGone = gone(x, 0, 1);
        written(x, x.join(aGone, aGone, 0), "Because a 0 is withdrawn and a 0 is withdrawn, a 0 can't be.");
        int ab = x.leaf(3, 0, 1, 1, 2);
        int both = x.join(ab, ab, 0);
        written(x, both, "Because a 0 excludes b 1 and a 0 excludes b 1, a 0 and b 1 can't both be.");
        int bc = x.leaf(3, 1, 1, 2, 3);
        int all = x.join(ab, bc, 1);
        written(x, all, "Because a 0 excludes b 1 and b 0 excludes c, a 0 and b and c can't all be.");
        int aOrB = x.join(asked(x, 0, 3), x.leaf(1, 0, 3, 1, 1), 0);
        written(x, aOrB, "Because a is asked for and a needs b 0, b 0 must be.");
        int ask = asked(x, 0, 2);
        written(x, x.join(ask, ask, 0), "Because a 1 is asked for and a 1 is asked for, a 1 must be.");
        int need = x.leaf(1, 0, 1, 1, 1);
        int needed = x.join(need, x.leaf(1, 1, 1, 3, 2), 1);
        written(x, needed, "Because a 0 needs b 0 and b 0 needs d 1, a 0 means d 1.");
        int two = x.join(need, x.leaf(3, 0, 3, 4, 1), 0);
        written(x, two, "Because a 0 needs b 0 and a excludes e 0, a and e 0 mean b 0.");
        int or = x.join(need, x.leaf(1, 0, 2, 2, 1), 0);
        written(x, or, "Because a 0 needs b 0 and a 1 needs c 0, a means b 0 or c 0.");
        int must = x.join(or, asked(x, 0, 3), 0);
        written(x, must,
            "Because a 0 needs b 0 and a 1 needs c 0, a means b 0 or c 0.",
            "And because a is asked for, b 0 or c 0 must be.");
        int never = x.join(x.leaf(3, 0, 1, 1, 1), x.leaf(3, 0, 2, 2, 1), 0);
        int never2 = x.join(never, x.leaf(3, 1, 2, 2, 1), 2);
        written(x, never2,
            "Because a 0 excludes b 0 and a 1 excludes c 0, a and b 0 and c 0 can't all be.",
            "And because b 1 excludes c 0, a and no b and c 0 can't all be.");
    }

    /** Rule 2, J with a NUMBER. */
    private static void aLeafAndANumberedJoin() {
        CHECKS.promise("2 a JOIN J with a NUMBER");
        NoneWords x = Checks.withNames(4);
        int simple = x.join(gone(x, 0, 1), gone(x, 0, 2), 0);
        int more = x.join(simple, gone(x, 0, 4), 0);
        int again = x.join(gone(x, 0, 8), simple, 0);
        written(x, x.join(more, again, 0),
            "[1] Because a 0 is withdrawn and a 1 is withdrawn, a 0-1 can't be.",
            "[2] And because a 2 is withdrawn, a 0-2 can't be.",
            "Because a 3 is withdrawn and a 0-1 can't be (1), a 0-1,3 can't be.",
            "And because a 0-2 can't be (2), a can't be.");
    }

    /** Rule 2, J isn't SHARED and is of a LEAF and a JOIN. */
    private static void aJoinThatIsPassedOver() {
        CHECKS.promise("2 is of one LEAF M and a JOIN I without a NUMBER");
        NoneWords x = Checks.withNames(4);
        int simple = x.join(gone(x, 0, 1), gone(x, 0, 2), 0);
        int passed = x.join(simple, gone(x, 0, 4), 0);
        int last = x.join(passed, gone(x, 0, 8), 0);
        written(x, last,
            "Because a 0 is withdrawn and a 1 is withdrawn, a 0-1 can't be.",
            "And because a 2 is withdrawn and a 3 is withdrawn, a can't be.");
        int more = x.join(asked(x, 0, 15), last, 0);
        written(x, more,
            "Because a 0 is withdrawn and a 1 is withdrawn, a 0-1 can't be.",
            "And because a 2 is withdrawn, a 0-2 can't be.",
            "And because a 3 is withdrawn and a is asked for, nothing is left.");
    }

    /** Rule 2: M and L each as P and as Q, the one told before the other being M always. */
    private static void aJoinThatIsPassedOverOnEitherSide() {
        CHECKS.promise("2 WRITE I, \"And because M and L, N.\"");
        for (int sides = 0; sides < 4; sides++) {
            NoneWords x = Checks.withNames(4);
            int m = gone(x, 0, 1);
            int l = gone(x, 0, 2);
            int i = x.join(gone(x, 0, 4), gone(x, 0, 8), 0);
            int j = (sides & 1) == 0 ? x.join(m, i, 0) : x.join(i, m, 0);
            int n = (sides & 2) == 0 ? x.join(l, j, 0) : x.join(j, l, 0);
            written(x, n,
                "Because a 2 is withdrawn and a 3 is withdrawn, a 2-3 can't be.",
                "And because a 0 is withdrawn and a 1 is withdrawn, a can't be.");
        }
    }

    private static void aSharedJoinIsNotPassedOver() {
        CHECKS.promise("2 else, if J isn't SHARED");
        NoneWords x = Checks.withNames(4);
        int simple = x.join(gone(x, 0, 1), gone(x, 0, 2), 0);
        int shared = x.join(simple, gone(x, 0, 4), 0);
        int one = x.join(shared, gone(x, 0, 8), 0);
        written(x, x.join(one, shared, 0),
            "Because a 0 is withdrawn and a 1 is withdrawn, a 0-1 can't be.",
            "[1] And because a 2 is withdrawn, a 0-2 can't be.",
            "[2] And because a 3 is withdrawn, a can't be.",
            "And because a 0-2 can't be (1), a can't be.");
    }

    /** Rule 2, J isn't SHARED, but what it is of has a NUMBER. */
    private static void anInnerJoinWithANumber() {
        CHECKS.promise("2 a JOIN I without a NUMBER");
        NoneWords x = Checks.withNames(4);
        int simple = x.join(gone(x, 0, 1), gone(x, 0, 2), 0);
        int one = x.join(simple, gone(x, 0, 4), 0);
        int two = x.join(simple, gone(x, 0, 8), 0);
        int three = x.join(two, gone(x, 0, 1), 0);
        written(x, x.join(one, three, 0),
            "[1] Because a 0 is withdrawn and a 1 is withdrawn, a 0-1 can't be.",
            "[2] And because a 2 is withdrawn, a 0-2 can't be.",
            "Because a 3 is withdrawn and a 0-1 can't be (1), a 0-1,3 can't be.",
            "And because a 0 is withdrawn, a 0-1,3 can't be.",
            "And because a 0-2 can't be (2), a can't be.");
    }

    /** Rule 3, one SIMPLE: it is the second, on whichever side it is. */
    private static void oneOfTwoJoinsSimple() {
        CHECKS.promise("3 if Q is SIMPLE .. else, if P is SIMPLE");
        NoneWords x = Checks.withNames(4);
        int simple = x.join(gone(x, 0, 1), gone(x, 0, 2), 0);
        int inner = x.join(gone(x, 0, 4), gone(x, 0, 1), 0);
        int longer = x.join(inner, gone(x, 0, 8), 0);
        String[] due = {
            "Because a 2 is withdrawn and a 0 is withdrawn, a 0,2 can't be.",
            "And because a 3 is withdrawn, a 0,2-3 can't be.",
            "Because a 0 is withdrawn and a 1 is withdrawn, a 0-1 can't be.",
            "Thus, a can't be."};
        int right = x.join(longer, simple, 0);
        written(x, right, due);
        CHECKS.due("no number for a first one beside a simple one", x.numbered(longer), 0);
        written(x, x.join(simple, longer, 0), due);
    }

    private static void bothJoinsSimple() {
        CHECKS.promise("3 if Q is SIMPLE, first is P and second Q");
        NoneWords x = Checks.withNames(4);
        int left = x.join(gone(x, 0, 1), gone(x, 0, 2), 0);
        int right = x.join(gone(x, 0, 4), gone(x, 0, 8), 0);
        written(x, x.join(left, right, 0),
            "Because a 0 is withdrawn and a 1 is withdrawn, a 0-1 can't be.",
            "Because a 2 is withdrawn and a 3 is withdrawn, a 2-3 can't be.",
            "Thus, a can't be.");
    }

    /** Rule 3, none SIMPLE: the first gets a NUMBER though it isn't SHARED. */
    private static void noneOfTwoJoinsSimple() {
        CHECKS.promise("3 if neither was SIMPLE and it hasn't one, it gets a NUMBER");
        NoneWords x = Checks.withNames(4);
        int left = x.join(x.join(gone(x, 0, 1), gone(x, 0, 2), 0), gone(x, 0, 4), 0);
        int right = x.join(x.join(gone(x, 0, 2), gone(x, 0, 4), 0), gone(x, 0, 8), 0);
        int both = x.join(left, right, 0);
        written(x, both,
            "Because a 0 is withdrawn and a 1 is withdrawn, a 0-1 can't be.",
            "[1] And because a 2 is withdrawn, a 0-2 can't be.",
            "Because a 1 is withdrawn and a 2 is withdrawn, a 1-2 can't be.",
            "And because a 3 is withdrawn, a 1-3 can't be.",
            "And because a 0-2 can't be (1), a can't be.");
        CHECKS.due("the first", x.numbered(left), 1);
        CHECKS.due("the second", x.numbered(right), 0);
    }

    /** Rule 3: the second comes into the first, so it has a NUMBER when the first is written. */
    private static void theSecondGetsItsNumberMeanwhile() {
        CHECKS.promise("3 if second has a NUMBER by then");
        NoneWords x = Checks.withNames(4);
        int inner = x.join(x.join(gone(x, 0, 1), gone(x, 0, 2), 0), gone(x, 0, 4), 0);
        int outer = x.join(inner, gone(x, 0, 8), 0);
        int both = x.join(outer, inner, 0);
        written(x, both,
            "Because a 0 is withdrawn and a 1 is withdrawn, a 0-1 can't be.",
            "[1] And because a 2 is withdrawn, a 0-2 can't be.",
            "[2] And because a 3 is withdrawn, a can't be.",
            "And because a 0-2 can't be (1), a can't be.");
        CHECKS.due("the first has one though nothing tells it", x.numbered(outer), 2);
        int simple = x.join(gone(x, 0, 1), gone(x, 0, 8), 0);
        int around = x.join(simple, gone(x, 0, 2), 0);
        written(x, x.join(around, simple, 0),
            "[1] Because a 0 is withdrawn and a 3 is withdrawn, a 0,3 can't be.",
            "And because a 1 is withdrawn, a 0-1,3 can't be.",
            "And because a 0,3 can't be (1), a 0-1,3 can't be.");
    }

    private static void oneOfTwoJoinsNumbered() {
        CHECKS.promise("3 one, X");
        NoneWords x = Checks.withNames(4);
        int simple = x.join(gone(x, 0, 1), gone(x, 0, 2), 0);
        int other = x.join(gone(x, 0, 4), gone(x, 0, 8), 0);
        int first = x.join(simple, gone(x, 0, 4), 0);
        int second = x.join(simple, other, 0);
        written(x, x.join(first, second, 0),
            "[1] Because a 0 is withdrawn and a 1 is withdrawn, a 0-1 can't be.",
            "[2] And because a 2 is withdrawn, a 0-2 can't be.",
            "Because a 2 is withdrawn and a 3 is withdrawn, a 2-3 can't be.",
            "And because a 0-1 can't be (1), a can't be.",
            "And because a 0-2 can't be (2), a can't be.");
        int turned = x.join(other, simple, 0);
        written(x, x.join(first, turned, 0),
            "[1] Because a 0 is withdrawn and a 1 is withdrawn, a 0-1 can't be.",
            "[2] And because a 2 is withdrawn, a 0-2 can't be.",
            "Because a 2 is withdrawn and a 3 is withdrawn, a 2-3 can't be.",
            "And because a 0-1 can't be (1), a can't be.",
            "And because a 0-2 can't be (2), a can't be.");
        int third = x.join(simple, first, 0);
        written(x, x.join(x.join(first, second, 0), third, 0),
            "[1] Because a 0 is withdrawn and a 1 is withdrawn, a 0-1 can't be.",
            "[2] And because a 2 is withdrawn, a 0-2 can't be.",
            "Because a 2 is withdrawn and a 3 is withdrawn, a 2-3 can't be.",
            "And because a 0-1 can't be (1), a can't be.",
            "[3] And because a 0-2 can't be (2), a can't be.",
            "Because a 0-1 can't be (1) and a 0-2 can't be (2), a 0-2 can't be.",
            "And because a can't be (3), a can't be.");
    }

    /** Rule 3, one has a NUMBER and isn't SIMPLE: the other one gets none, SIMPLE or not, on either side. */
    private static void oneOfTwoLongJoinsNumbered() {
        CHECKS.promise("3 one, X: WRITE the other one, \"And because X, N.\"");
        for (int side = 0; side < 2; side++) {
            NoneWords x = Checks.withNames(4);
            int known = x.join(x.join(gone(x, 0, 1), gone(x, 0, 2), 0), gone(x, 0, 4), 0);
            int before = x.join(known, gone(x, 0, 8), 0);
            int simple = x.join(gone(x, 0, 4), gone(x, 0, 8), 0);
            int longer = x.join(x.join(gone(x, 0, 2), gone(x, 0, 4), 0), gone(x, 0, 8), 0);
            int withSimple = side == 0 ? x.join(known, simple, 0) : x.join(simple, known, 0);
            int withLonger = side == 0 ? x.join(known, longer, 0) : x.join(longer, known, 0);
            written(x, x.join(before, withSimple, 0),
                "Because a 0 is withdrawn and a 1 is withdrawn, a 0-1 can't be.",
                "[1] And because a 2 is withdrawn, a 0-2 can't be.",
                "[2] And because a 3 is withdrawn, a can't be.",
                "Because a 2 is withdrawn and a 3 is withdrawn, a 2-3 can't be.",
                "And because a 0-2 can't be (1), a can't be.",
                "And because a can't be (2), a can't be.");
            written(x, x.join(before, withLonger, 0),
                "Because a 0 is withdrawn and a 1 is withdrawn, a 0-1 can't be.",
                "[1] And because a 2 is withdrawn, a 0-2 can't be.",
                "[2] And because a 3 is withdrawn, a can't be.",
                "Because a 1 is withdrawn and a 2 is withdrawn, a 1-2 can't be.",
                "And because a 3 is withdrawn, a 1-3 can't be.",
                "And because a 0-2 can't be (1), a can't be.",
                "And because a can't be (2), a can't be.");
        }
    }

    private static void bothJoinsNumbered() {
        CHECKS.promise("3 both with NUMBERS: \"Because P and Q, N.\"");
        for (int side = 0; side < 2; side++) {
            NoneWords x = Checks.withNames(4);
            int one = x.join(gone(x, 0, 1), gone(x, 0, 2), 0);
            int two = x.join(one, gone(x, 0, 4), 0);
            int before = x.join(two, gone(x, 0, 8), 0);
            int both = side == 0 ? x.join(one, two, 0) : x.join(two, one, 0);
            String told = side == 0
                ? "Because a 0-1 can't be (1) and a 0-2 can't be (2), a 0-2 can't be."
                : "Because a 0-2 can't be (2) and a 0-1 can't be (1), a 0-2 can't be.";
            written(x, x.join(before, both, 0),
                "[1] Because a 0 is withdrawn and a 1 is withdrawn, a 0-1 can't be.",
                "[2] And because a 2 is withdrawn, a 0-2 can't be.",
                "[3] And because a 3 is withdrawn, a can't be.",
                told,
                "And because a can't be (3), a can't be.");
        }
    }

    /** A join that the written one isn't made of makes nothing SHARED. */
    private static void sharedOnlyInsideTheWrittenOne() {
        CHECKS.promise("SHARED .. of those that the written one is made of");
        NoneWords x = Checks.withNames(4);
        int simple = x.join(gone(x, 0, 1), gone(x, 0, 2), 0);
        int one = x.join(simple, gone(x, 0, 4), 0);
        int two = x.join(simple, gone(x, 0, 8), 0);
        written(x, one,
            "Because a 0 is withdrawn and a 1 is withdrawn, a 0-1 can't be.",
            "And because a 2 is withdrawn, a 0-2 can't be.");
        written(x, two,
            "Because a 0 is withdrawn and a 1 is withdrawn, a 0-1 can't be.",
            "And because a 3 is withdrawn, a 0-1,3 can't be.");
        CHECKS.due("no number", x.numbered(simple), 0);
        x.join(one, one, 0);
        written(x, one,
            "Because a 0 is withdrawn and a 1 is withdrawn, a 0-1 can't be.",
            "And because a 2 is withdrawn, a 0-2 can't be.");
    }
}
