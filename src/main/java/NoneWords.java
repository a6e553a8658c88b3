import java.util.Arrays;

/**
 * Why nothing can be chosen, in words: facts about versions as leaves, joined step by step; the
 * derivation is written as sentences, shared parts once, with numbers; which demands are to blame
 * at least, and which single fact, taken away, would let something be.
 */
public final class NoneWords {
    public static final int NONE = -1;

    private static final int MOST_NAMES = 5;
    private static final int MOST_VERSIONS = 4;
    private static final int MOST_NODES = 120;

    private static final int DEMAND = 0;
    private static final int NEED = 1;
    private static final int GONE = 2;
    private static final int CONFLICT = 3;
    private static final int JOIN = 4;

    private final Facts facts;
    private final Writer writer;
    private final Speech speech;
    private final Search search;

    public NoneWords() {
        facts = new Facts();
        writer = new Writer(facts);
        speech = new Speech(facts, writer);
        search = new Search(facts);
    }

    public int name(int versions) {
        return facts.addName(versions);
    }

    public int leaf(int kind, int name, int set, int other, int otherSet) {
        switch (kind) {
            case DEMAND:
            case GONE:
                return facts.addLeaf(kind, name, set);
            case NEED:
            case CONFLICT:
                return facts.addPairLeaf(kind, name, set, other, otherSet);
            default:
                return NONE;
        }
    }

    public int join(int a, int b, int name) {
        return facts.addJoin(a, b, name);
    }

    public int terms(int node) {
        if (!facts.hasNode(node)) {
            return NONE;
        }
        return facts.countTerms(node, true) + facts.countTerms(node, false);
    }

    public int term(int node, int i, int what) {
        int name = facts.nameOfTerm(node, i);
        if (name == NONE) {
            return NONE;
        }
        switch (what) {
            case 0:
                return name;
            case 1:
                return facts.setOfTerm(node, name);
            case 2:
                return facts.hasTermOf(node, name, true) ? 1 : 0;
            default:
                return NONE;
        }
    }

    public int write(int node) {
        if (!facts.hasNode(node)) {
            return NONE;
        }
        speech.forget();
        return writer.writeAll(node);
    }

    public int sentence(int i) {
        return speech.show(i) ? speech.countSigns() : NONE;
    }

    public int letter(int i, int k) {
        return speech.show(i) ? speech.signAt(k) : NONE;
    }

    public int line(int i) {
        return writer.numberOfSentence(i);
    }

    public int numbered(int node) {
        return writer.numberOfNode(node);
    }

    public boolean solvable() {
        return search.findsWorld();
    }

    public int least() {
        return search.keepBlamed();
    }

    public int demand(int i) {
        return search.blamed(i);
    }

    public int hint(int i) {
        return search.release(i);
    }

    /**
     * The names and the nodes. What the terms of a node are true of is packed into one int, five
     * bits for each name: four for its versions, the fifth for none. A version that isn't there
     * goes along with none, so that a term is FULL just when its five bits are set, and a name of
     * which there is no term, even one that comes later, looks the same.
     */
    private static final class Facts {
        static final int OPTIONS = MOST_VERSIONS + 1;
        static final int NO_VERSION = 1 << MOST_VERSIONS;
        static final int FULL = (1 << OPTIONS) - 1;
        static final int ALL_FULL = (1 << (OPTIONS * MOST_NAMES)) - 1;

        private final int[] versions = new int[MOST_NAMES];
        private int names = 0;

        private final int[] kinds = new int[MOST_NODES];
        private final int[] truths = new int[MOST_NODES];
        private final int[] toldNames = new int[MOST_NODES];
        private final int[] toldSets = new int[MOST_NODES];
        private final int[] toldOthers = new int[MOST_NODES];
        private final int[] toldOtherSets = new int[MOST_NODES];
        private final int[] leftParts = new int[MOST_NODES];
        private final int[] rightParts = new int[MOST_NODES];
        private int nodes = 0;

        /** Leaves have no parts, so NONE stands there until a join comes. */
        Facts() {
            Arrays.fill(leftParts, NONE);
            Arrays.fill(rightParts, NONE);
        }

        int countNames() {
            return names;
        }

        int countNodes() {
            return nodes;
        }

        boolean hasName(int name) {
            return name >= 0 && name < names;
        }

        boolean hasNode(int node) {
            return node >= 0 && node < nodes;
        }

        int kindOf(int node) {
            return hasNode(node) ? kinds[node] : NONE;
        }

        boolean isJoin(int node) {
            return hasNode(node) && kinds[node] == JOIN;
        }

        boolean isLeaf(int node) {
            return hasNode(node) && kinds[node] != JOIN;
        }

        int toldName(int leaf) {
            return hasNode(leaf) ? toldNames[leaf] : NONE;
        }

        int toldSet(int leaf) {
            return hasNode(leaf) ? toldSets[leaf] : 0;
        }

        int toldOther(int leaf) {
            return hasNode(leaf) ? toldOthers[leaf] : NONE;
        }

        int toldOtherSet(int leaf) {
            return hasNode(leaf) ? toldOtherSets[leaf] : 0;
        }

        int leftPart(int node) {
            return hasNode(node) ? leftParts[node] : NONE;
        }

        int rightPart(int node) {
            return hasNode(node) ? rightParts[node] : NONE;
        }

        boolean isSimple(int node) {
            return isLeaf(leftPart(node)) && isLeaf(rightPart(node));
        }

        /** The left one if both are leaves, NONE if none is. */
        int leafPart(int node) {
            int left = leftPart(node);
            int right = rightPart(node);
            return isLeaf(left) ? left : isLeaf(right) ? right : NONE;
        }

        /** The left one if both are joins, NONE if none is. */
        int joinPart(int node) {
            int left = leftPart(node);
            int right = rightPart(node);
            return isJoin(left) ? left : isJoin(right) ? right : NONE;
        }

        int addName(int count) {
            if (names >= MOST_NAMES || count < 0 || count > MOST_VERSIONS) {
                return NONE;
            }
            versions[names] = count;
            names++;
            return names - 1;
        }

        int allVersions(int name) {
            return hasName(name) ? (1 << versions[name]) - 1 : 0;
        }

        int addLeaf(int kind, int name, int set) {
            if (!hasName(name) || nodes >= MOST_NODES) {
                return NONE;
            }
            int told = set & allVersions(name);
            toldNames[nodes] = name;
            toldSets[nodes] = told;
            return addNode(kind, kind == DEMAND ? notIn(name, told) : wantedIn(name, told));
        }

        int addPairLeaf(int kind, int name, int set, int other, int otherSet) {
            if (!hasName(name) || !hasName(other) || name == other || nodes >= MOST_NODES) {
                return NONE;
            }
            int told = set & allVersions(name);
            int toldOfOther = otherSet & allVersions(other);
            toldNames[nodes] = name;
            toldSets[nodes] = told;
            toldOthers[nodes] = other;
            toldOtherSets[nodes] = toldOfOther;
            int second = kind == NEED ? notIn(other, toldOfOther) : wantedIn(other, toldOfOther);
            return addNode(kind, wantedIn(name, told) & second);
        }

        int addJoin(int a, int b, int name) {
            if (!hasNode(a) || !hasNode(b) || !hasName(name) || nodes >= MOST_NODES) {
                return NONE;
            }
            if (optionsOfTerm(a, name) == FULL || optionsOfTerm(b, name) == FULL) {
                return NONE;
            }
            leftParts[nodes] = a;
            rightParts[nodes] = b;
            int place = FULL << (OPTIONS * name);
            int either = (truths[a] | truths[b]) & place;
            int both = truths[a] & truths[b] & ~place;
            return addNode(JOIN, either | both);
        }

        private int addNode(int kind, int truth) {
            kinds[nodes] = kind;
            truths[nodes] = truth;
            nodes++;
            return nodes - 1;
        }

        private static int wantedIn(int name, int set) {
            int place = OPTIONS * name;
            return (ALL_FULL & ~(FULL << place)) | (set << place);
        }

        private static int notIn(int name, int set) {
            return ALL_FULL & ~(set << (OPTIONS * name));
        }

        /** The options of a name of which a node's term is true; FULL where it has no term. */
        int optionsOfTerm(int node, int name) {
            if (node < 0 || node >= nodes || name < 0 || name >= names) {
                return FULL;
            }
            return (truths[node] >> (OPTIONS * name)) & FULL;
        }

        boolean hasTermOf(int node, int name, boolean wanted) {
            int options = optionsOfTerm(node, name);
            boolean isWanted = (options & NO_VERSION) == 0;
            return options != FULL && isWanted == wanted;
        }

        int setOfTerm(int node, int name) {
            int options = optionsOfTerm(node, name);
            return (options & NO_VERSION) == 0 ? options : FULL & ~options;
        }

        int countTerms(int node, boolean wanted) {
            int count = 0;
            for (int name = 0; name < names; name++) {
                if (hasTermOf(node, name, wanted)) {
                    count++;
                }
            }
            return count;
        }

        int nameOfTerm(int node, int i) {
            int before = 0;
            for (int name = 0; name < names; name++) {
                if (optionsOfTerm(node, name) != FULL) {
                    if (before == i) {
                        return name;
                    }
                    before++;
                }
            }
            return NONE;
        }
    }

    /**
     * Writes a derivation, sentence by sentence. A sentence is kept as the nodes that it tells, not
     * as text, so that a long derivation takes little room. The nodes that wait for their parts
     * stand on a stack made for it, because derivations can be deeper than calls may be.
     */
    private static final class Writer {
        static final int PLAIN = 0;
        static final int BECAUSE = 1;
        static final int AND_BECAUSE = 2;
        static final int THUS = 3;

        private static final int WRITE = 0;
        private static final int GO_ON = 1;
        private static final int CLOSE = 2;

        /** A join leaves one step on the stack while its part is written; the last one adds one. */
        private static final int MOST_WAITING = MOST_NODES + 1;

        /** Each join is opened, gone on with and closed once at most. */
        private static final int MOST_STEPS = 3 * MOST_NODES;

        private final Facts facts;

        private final int[] uses = new int[MOST_NODES];
        private final int[] nodeNumbers = new int[MOST_NODES];
        private int numbers = 0;

        private final int[] openings = new int[MOST_NODES];
        private final int[] firstCauses = new int[MOST_NODES];
        private final int[] secondCauses = new int[MOST_NODES];
        private final int[] conclusions = new int[MOST_NODES];
        private final int[] sentenceNumbers = new int[MOST_NODES];
        private int sentences = 0;

        private final int[] steps = new int[MOST_WAITING];
        private final int[] stepNodes = new int[MOST_WAITING];
        private final int[] stepFirsts = new int[MOST_WAITING];
        private final int[] stepSeconds = new int[MOST_WAITING];
        private int waiting = 0;

        Writer(Facts facts) {
            this.facts = facts;
        }

        boolean hasSentence(int i) {
            return i >= 0 && i < sentences;
        }

        int opening(int i) {
            return hasSentence(i) ? openings[i] : PLAIN;
        }

        int firstCause(int i) {
            return hasSentence(i) ? firstCauses[i] : NONE;
        }

        int secondCause(int i) {
            return hasSentence(i) ? secondCauses[i] : NONE;
        }

        int conclusion(int i) {
            return hasSentence(i) ? conclusions[i] : NONE;
        }

        int numberOfSentence(int i) {
            return hasSentence(i) ? sentenceNumbers[i] : 0;
        }

        int numberOfNode(int node) {
            return facts.hasNode(node) ? nodeNumbers[node] : 0;
        }

        int writeAll(int root) {
            sentences = 0;
            numbers = 0;
            waiting = 0;
            Arrays.fill(nodeNumbers, 0);
            countUses(root);
            await(WRITE, root, NONE, NONE);
            for (int done = 0; done < MOST_STEPS && waiting > 0; done++) {
                waiting--;
                int node = stepNodes[waiting];
                int first = stepFirsts[waiting];
                int second = stepSeconds[waiting];
                switch (steps[waiting]) {
                    case WRITE:
                        open(node);
                        break;
                    case GO_ON:
                        goOn(node, first, second);
                        break;
                    default:
                        close(first == NONE ? THUS : AND_BECAUSE, first, second, node);
                        break;
                }
            }
            return sentences;
        }

        /** A part has a lower number than what is made of it, so one way down meets every part. */
        private void countUses(int root) {
            Arrays.fill(uses, 0);
            for (int node = root; node >= 0; node--) {
                if (node == root || uses[node] > 0) {
                    countUse(facts.leftPart(node));
                    countUse(facts.rightPart(node));
                }
            }
        }

        private void countUse(int part) {
            if (facts.hasNode(part)) {
                uses[part]++;
            }
        }

        private void await(int step, int node, int first, int second) {
            if (waiting < MOST_WAITING) {
                steps[waiting] = step;
                stepNodes[waiting] = node;
                stepFirsts[waiting] = first;
                stepSeconds[waiting] = second;
                waiting++;
            }
        }

        private void open(int node) {
            int left = facts.leftPart(node);
            int right = facts.rightPart(node);
            if (!facts.isJoin(node)) {
                say(PLAIN, NONE, NONE, node);
            } else if (facts.isJoin(left) && facts.isJoin(right)) {
                openOfJoins(node, left, right);
            } else if (facts.isJoin(left)) {
                openOfLeafAndJoin(node, right, left);
            } else if (facts.isJoin(right)) {
                openOfLeafAndJoin(node, left, right);
            } else {
                close(BECAUSE, left, right, node);
            }
        }

        private void openOfLeafAndJoin(int node, int leaf, int join) {
            int innerLeaf = facts.leafPart(join);
            int innerJoin = facts.joinPart(join);
            boolean isOfBoth = innerLeaf != NONE && innerJoin != NONE;
            if (hasNumber(join)) {
                close(BECAUSE, leaf, join, node);
            } else if (isOfBoth && !isShared(join) && !hasNumber(innerJoin)) {
                await(CLOSE, node, innerLeaf, leaf);
                await(WRITE, innerJoin, NONE, NONE);
            } else {
                await(CLOSE, node, leaf, NONE);
                await(WRITE, join, NONE, NONE);
            }
        }

        private void openOfJoins(int node, int left, int right) {
            if (hasNumber(left) && hasNumber(right)) {
                close(BECAUSE, left, right, node);
            } else if (hasNumber(left)) {
                await(CLOSE, node, left, NONE);
                await(WRITE, right, NONE, NONE);
            } else if (hasNumber(right)) {
                await(CLOSE, node, right, NONE);
                await(WRITE, left, NONE, NONE);
            } else if (facts.isSimple(left) && !facts.isSimple(right)) {
                await(GO_ON, node, right, left);
                await(WRITE, right, NONE, NONE);
            } else {
                await(GO_ON, node, left, right);
                await(WRITE, left, NONE, NONE);
            }
        }

        /** The first of two joins is written; writing it may have numbered the second one. */
        private void goOn(int node, int first, int second) {
            boolean oneSimple = facts.isSimple(first) || facts.isSimple(second);
            if (!oneSimple && !hasNumber(first)) {
                giveNumber(first);
            }
            if (hasNumber(second)) {
                close(AND_BECAUSE, second, NONE, node);
            } else {
                await(CLOSE, node, oneSimple ? NONE : first, NONE);
                await(WRITE, second, NONE, NONE);
            }
        }

        private void close(int opening, int first, int second, int join) {
            say(opening, first, second, join);
            if (isShared(join)) {
                giveNumber(join);
            }
        }

        private void say(int opening, int first, int second, int node) {
            if (sentences < MOST_NODES) {
                openings[sentences] = opening;
                firstCauses[sentences] = first;
                secondCauses[sentences] = second;
                conclusions[sentences] = node;
                sentenceNumbers[sentences] = 0;
                sentences++;
            }
        }

        private void giveNumber(int join) {
            if (facts.hasNode(join) && sentences > 0) {
                numbers++;
                nodeNumbers[join] = numbers;
                sentenceNumbers[sentences - 1] = numbers;
            }
        }

        private boolean hasNumber(int node) {
            return numberOfNode(node) != 0;
        }

        private boolean isShared(int join) {
            return facts.hasNode(join) && uses[join] >= 2;
        }
    }

    /**
     * The signs of one sentence at a time, made when they are asked for. Names and nodes never
     * change once they are there, so a sentence reads the same until the next writing.
     */
    private static final class Speech {
        /** The longest sentence, of two causes with numbers and five terms in each part, has 232. */
        private static final int MOST_SIGNS = 256;

        private final Facts facts;
        private final Writer writer;
        private final char[] signs = new char[MOST_SIGNS];
        private int length = 0;
        private int shown = NONE;

        Speech(Facts facts, Writer writer) {
            this.facts = facts;
            this.writer = writer;
        }

        void forget() {
            shown = NONE;
        }

        int countSigns() {
            return length;
        }

        int signAt(int k) {
            return k >= 0 && k < length ? signs[k] : NONE;
        }

        /** Whether there is such a sentence; if so, its signs are there afterwards. */
        boolean show(int i) {
            if (!writer.hasSentence(i)) {
                return false;
            }
            if (i == shown) {
                return true;
            }
            shown = i;
            length = 0;
            int first = writer.firstCause(i);
            int second = writer.secondCause(i);
            put(openingWords(writer.opening(i)));
            if (first != NONE) {
                tellNode(first);
                tellNumber(first);
            }
            if (second != NONE) {
                put(" and ");
                tellNode(second);
                tellNumber(second);
            }
            if (first != NONE) {
                put(", ");
            }
            tellNode(writer.conclusion(i));
            put('.');
            return true;
        }

        private static String openingWords(int opening) {
            switch (opening) {
                case Writer.BECAUSE:
                    return "Because ";
                case Writer.AND_BECAUSE:
                    return "And because ";
                case Writer.THUS:
                    return "Thus, ";
                default:
                    return "";
            }
        }

        /** Of causes only: a conclusion gets its number when its sentence is already written. */
        private void tellNumber(int node) {
            int number = writer.numberOfNode(node);
            if (number == 0) {
                return;
            }
            put(" (");
            if (number >= 100) {
                put(digit(number / 100));
            }
            if (number >= 10) {
                put(digit(number / 10));
            }
            put(digit(number));
            put(')');
        }

        private void tellNode(int node) {
            if (facts.isJoin(node)) {
                tellJoin(node);
            } else {
                tellLeaf(node);
            }
        }

        private void tellLeaf(int leaf) {
            tellSet(facts.toldName(leaf), facts.toldSet(leaf));
            switch (facts.kindOf(leaf)) {
                case DEMAND:
                    put(" is asked for");
                    break;
                case NEED:
                    put(" needs ");
                    tellSet(facts.toldOther(leaf), facts.toldOtherSet(leaf));
                    break;
                case GONE:
                    put(" is withdrawn");
                    break;
                default:
                    put(" excludes ");
                    tellSet(facts.toldOther(leaf), facts.toldOtherSet(leaf));
                    break;
            }
        }

        private void tellJoin(int join) {
            int wanted = facts.countTerms(join, true);
            int not = facts.countTerms(join, false);
            if (wanted == 0 && not == 0) {
                put("nothing is left");
            } else if (not == 0) {
                tellTerms(join, true, " and ");
                put(wanted == 1 ? " can't be" : wanted == 2 ? " can't both be" : " can't all be");
            } else if (wanted == 0) {
                tellTerms(join, false, " or ");
                put(" must be");
            } else {
                tellTerms(join, true, " and ");
                put(wanted == 1 ? " means " : " mean ");
                tellTerms(join, false, " or ");
            }
        }

        private void tellTerms(int join, boolean wanted, String between) {
            boolean some = false;
            for (int name = 0; name < facts.countNames(); name++) {
                if (facts.hasTermOf(join, name, wanted)) {
                    if (some) {
                        put(between);
                    }
                    tellSet(name, facts.setOfTerm(join, name));
                    some = true;
                }
            }
        }

        /** The blank comes with the first run, so that there is none where no run is told. */
        private void tellSet(int name, int set) {
            if (set == 0) {
                put("no ");
            }
            put((char) ('a' + name));
            int told = set == facts.allVersions(name) ? 0 : set;
            int starts = told & ~(told << 1);
            int ends = told & ~(told >> 1);
            char before = ' ';
            for (int version = 0; version < MOST_VERSIONS; version++) {
                int bit = 1 << version;
                if ((starts & bit) != 0) {
                    put(before);
                    put(digit(version));
                    before = ',';
                } else if ((ends & bit) != 0) {
                    put('-');
                    put(digit(version));
                }
            }
        }

        private static char digit(int number) {
            return (char) ('0' + number % 10);
        }

        private void put(String text) {
            for (int i = 0; i < text.length(); i++) {
                put(text.charAt(i));
            }
        }

        private void put(char sign) {
            if (length < MOST_SIGNS) {
                signs[length] = sign;
                length++;
            }
        }
    }

    /**
     * Looks for a world in which every leaf, but those that are left out, has a term that isn't
     * true. A leaf has two terms at most: with one it bars options by itself, with two an option
     * of the one name bars options of the other.
     */
    private static final class Search {
        private final Facts facts;
        private final boolean[] leftOut = new boolean[MOST_NODES];
        private final int[] bars = new int[MOST_NAMES * Facts.OPTIONS];
        private final int[] stayed = new int[MOST_NODES];
        private int stays = 0;

        Search(Facts facts) {
            this.facts = facts;
        }

        boolean findsWorld() {
            Arrays.fill(bars, 0);
            int free = allOptions();
            for (int node = 0; node < facts.countNodes(); node++) {
                if (facts.isLeaf(node) && !leftOut[node]) {
                    free &= ~bar(node);
                }
            }
            return canChoose(bars, facts.countNames(), 0, free);
        }

        int keepBlamed() {
            stays = 0;
            if (findsWorld()) {
                return 0;
            }
            for (int node = 0; node < facts.countNodes(); node++) {
                if (facts.kindOf(node) == DEMAND) {
                    leftOut[node] = true;
                    if (findsWorld()) {
                        leftOut[node] = false;
                        keep(node);
                    }
                }
            }
            takeAllBack();
            return stays;
        }

        private void keep(int demand) {
            if (stays < MOST_NODES) {
                stayed[stays] = demand;
                stays++;
            }
        }

        int blamed(int i) {
            return i >= 0 && i < stays ? stayed[i] : NONE;
        }

        /** The i-th leaf that is no need and without which alone there is a world. */
        int release(int i) {
            if (i < 0 || findsWorld()) {
                return NONE;
            }
            int before = 0;
            for (int node = 0; node < facts.countNodes(); node++) {
                if (facts.isLeaf(node) && facts.kindOf(node) != NEED && findsWorldWithout(node)) {
                    if (before == i) {
                        return node;
                    }
                    before++;
                }
            }
            return NONE;
        }

        private boolean findsWorldWithout(int leaf) {
            leftOut[leaf] = true;
            boolean found = findsWorld();
            leftOut[leaf] = false;
            return found;
        }

        private void takeAllBack() {
            for (int node = 0; node < MOST_NODES; node++) {
                leftOut[node] = false;
            }
        }

        private int allOptions() {
            int options = 0;
            for (int name = 0; name < facts.countNames(); name++) {
                int own = facts.allVersions(name) | Facts.NO_VERSION;
                options |= own << (Facts.OPTIONS * name);
            }
            return options;
        }

        /** Answers what a leaf bars by itself; what its two names bar of each other is noted. */
        private int bar(int leaf) {
            int first = facts.nameOfTerm(leaf, 0);
            if (first == NONE) {
                return Facts.ALL_FULL;
            }
            int second = facts.nameOfTerm(leaf, 1);
            int firstOptions = facts.optionsOfTerm(leaf, first);
            if (second == NONE) {
                return firstOptions << (Facts.OPTIONS * first);
            }
            int against = facts.optionsOfTerm(leaf, second) << (Facts.OPTIONS * second);
            for (int option = 0; option < Facts.OPTIONS; option++) {
                if ((firstOptions >> option & 1) == 1) {
                    bars[Facts.OPTIONS * first + option] |= against;
                }
            }
            return 0;
        }

        /** Whether the names from this one on can be chosen; goes a call deeper for each of them. */
        private static boolean canChoose(int[] bars, int names, int name, int free) {
            if (name >= names || name >= MOST_NAMES) {
                return true;
            }
            if (isStuck(names, name, free)) {
                return false;
            }
            for (int option = 0; option < Facts.OPTIONS; option++) {
                int place = Facts.OPTIONS * name + option;
                boolean isFree = (free >> place & 1) == 1;
                if (isFree && canChoose(bars, names, name + 1, free & ~bars[place])) {
                    return true;
                }
            }
            return false;
        }

        /** Whether a name that is still to come has no option left. */
        private static boolean isStuck(int names, int from, int free) {
            for (int name = from; name < names; name++) {
                if ((free >> (Facts.OPTIONS * name) & Facts.FULL) == 0) {
                    return true;
                }
            }
            return false;
        }
    }
}
