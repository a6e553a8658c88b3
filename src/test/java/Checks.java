/** Counts answers that are not as due, and reads whole sentences. */
final class Checks {
    private int asked = 0;
    private int wrong = 0;
    private String promised = "";

    /** The document's words that the answers from here on are asked for; told with each wrong one. */
    void promise(String words) {
        promised = words + ": ";
    }

    static NoneWords withNames(int... versions) {
        NoneWords x = new NoneWords();
        for (int count : versions) {
            x.name(count);
        }
        return x;
    }

    /** Numbers that aren't 0 .. bound - 1: the nearest, the farthest, and those that a wrap-around would let in. */
    static int[] outside(int bound) {
        return new int[] {-1, -2, -32, -256, -65536, Integer.MIN_VALUE, Integer.MIN_VALUE + 1,
            bound, bound + 1, bound + 32, bound + 256, 1 << 16, 1 << 30, Integer.MAX_VALUE - 1, Integer.MAX_VALUE};
    }

    void due(String call, long got, long want) {
        asked++;
        if (got != want) {
            wrong++;
            System.out.println(promised + call + " answered " + got + ", due is " + want);
        }
    }

    void due(String call, boolean got, boolean want) {
        due(call, got ? 1 : 0, want ? 1 : 0);
    }

    void due(String call, String got, String want) {
        asked++;
        if (!got.equals(want)) {
            wrong++;
            System.out.println(promised + call + " answered \"" + got + "\", due is \"" + want + "\"");
        }
    }

    void term(NoneWords x, int node, int i, int name, int set, int wanted) {
        due("term(" + node + ", " + i + ", 0)", x.term(node, i, 0), name);
        due("term(" + node + ", " + i + ", 1)", x.term(node, i, 1), set);
        due("term(" + node + ", " + i + ", 2)", x.term(node, i, 2), wanted);
    }

    /** Writes the node and compares every sentence; "[2] " before one means that its line is 2. */
    void written(NoneWords x, int node, String... sentences) {
        due("write(" + node + ")", x.write(node), sentences.length);
        for (int i = 0; i < sentences.length; i++) {
            due("sentence " + i + " of " + node, lineAndText(x, i), sentences[i]);
        }
        due("sentence behind the last", x.sentence(sentences.length), NoneWords.NONE);
    }

    static String lineAndText(NoneWords x, int i) {
        return x.line(i) == 0 ? text(x, i) : "[" + x.line(i) + "] " + text(x, i);
    }

    static String text(NoneWords x, int i) {
        StringBuilder signs = new StringBuilder();
        for (int k = 0; k < x.sentence(i); k++) {
            signs.append((char) x.letter(i, k));
        }
        return signs.toString();
    }

    void end(String what) {
        System.out.println(what + ": " + asked + " answers, " + wrong + " not as due");
        if (wrong != 0 || asked == 0) {
            System.exit(1);
        }
    }
}
