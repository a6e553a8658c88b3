/** Counts answers that are not as due, and reads whole sentences. */
final class Checks {
    private int asked = 0;
    private int wrong = 0;

    static NoneWords withNames(int... versions) {
        NoneWords x = new NoneWords();
        for (int count : versions) {
            x.name(count);
        }
        return x;
    }

    void due(String call, long got, long want) {
        asked++;
        if (got != want) {
            wrong++;
            System.out.println(call + " answered " + got + ", due is " + want);
        }
    }

    void due(String call, boolean got, boolean want) {
        due(call, got ? 1 : 0, want ? 1 : 0);
    }

    void due(String call, String got, String want) {
        asked++;
        if (!got.equals(want)) {
            wrong++;
            System.out.println(call + " answered \"" + got + "\", due is \"" + want + "\"");
        }
    }

    /** Writes the node and compares every sentence; "[2] " before one means that its line is 2. */
    void written(NoneWords x, int node, String... sentences) {
        due("write(" + node + ")", x.write(node), sentences.length);
        for (int i = 0; i < sentences.length; i++) {
            due("sentence " + i + " of " + node, lineAndText(x, i), sentences[i]);
        }
        due("sentence behind the last", x.sentence(sentences.length), NoneWords.NONE);
    }

    static String lineAndText(NoneWords x, int i) {
        return x.line(i) == 0 ? text(x, i) : "[" + x.line(i) + "] " + text(x, i);
    }

    static String text(NoneWords x, int i) {
        StringBuilder signs = new StringBuilder();
        for (int k = 0; k < x.sentence(i); k++) {
            signs.append((char) x.letter(i, k));
        }
        return signs.toString();
    }

    void end(String what) {
        System.out.println(what + ": " + asked + " answers, " + wrong + " not as due");
        if (wrong != 0 || asked == 0) {
            System.exit(1);
        }
    }
}
