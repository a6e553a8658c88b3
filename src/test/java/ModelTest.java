import java.util.Random;

/** Random runs of at most 512 calls, each answer compared with the plain model's. */
public final class ModelTest {
    private static final int RUNS = 1500;

    private final Checks checks;
    private final Random random;
    private final NoneWords x = new NoneWords();
    private final PlainModel y = new PlainModel();
    private final int run;
    private int nodes = 0;
    private int calls = 0;

    private ModelTest(Checks checks, int run) {
        this.checks = checks;
        this.run = run;
        random = new Random(run);
    }

    public static void main(String[] args) {
        Checks checks = new Checks();
        for (int run = 0; run < RUNS; run++) {
            new ModelTest(checks, run).play();
        }
        checks.end("ModelTest");
    }

    private void play() {
        int names = random.nextInt(6);
        for (int i = 0; i < names; i++) {
            askName(random.nextInt(4) == 0 ? random.nextInt(5) : 2 + random.nextInt(3));
        }
        int leaves = 1 + random.nextInt(random.nextInt(6) == 0 ? 60 : 12);
        for (int i = 0; i < leaves; i++) {
            askLeaf(random.nextInt(4));
        }
        int tries = random.nextInt(random.nextInt(4) == 0 ? 300 : 60);
        for (int i = 0; i < tries && calls < 400; i++) {
            askJoin();
        }
        while (calls < 430) {
            askAny();
        }
        for (int i = 0; i < 3; i++) {
            askTexts(nodes - 1 - i);
        }
    }

    private void due(String call, long got, long want) {
        calls++;
        checks.due("run " + run + ": " + call, got, want);
    }

    private int near(int bound) {
        return random.nextInt(10) == 0 ? wild() : random.nextInt(bound + 1);
    }

    private int wild() {
        int[] odd = {-1, -2, 5, 120, 119, 121, Integer.MAX_VALUE, Integer.MIN_VALUE, 1 << 30};
        return random.nextInt(3) == 0 ? random.nextInt() : odd[random.nextInt(odd.length)];
    }

    private int node() {
        boolean late = random.nextInt(3) != 0;
        int from = late ? Math.max(0, nodes - 6) : 0;
        return nodes == 0 || random.nextInt(30) == 0 ? wild() : from + random.nextInt(nodes - from);
    }

    private int set() {
        return random.nextInt(8) == 0 ? random.nextInt() : random.nextInt(16);
    }

    private void askName(int versions) {
        due("name(" + versions + ")", x.name(versions), y.name(versions));
    }

    private void askLeaf(int kind) {
        int name = random.nextInt(20) == 0 ? wild() : random.nextInt(5);
        int other = random.nextInt(20) == 0 ? wild() : random.nextInt(5);
        int set = set();
        int otherSet = set();
        int want = y.leaf(kind, name, set, other, otherSet);
        due("leaf " + kind + " " + name + " " + set + " " + other + " " + otherSet,
            x.leaf(kind, name, set, other, otherSet), want);
        nodes = Math.max(nodes, want + 1);
    }

    private void askJoin() {
        int a = node();
        int b = node();
        int name = random.nextInt(40) == 0 ? wild() : random.nextInt(5);
        int want = y.join(a, b, name);
        due("join " + a + " " + b + " " + name, x.join(a, b, name), want);
        nodes = Math.max(nodes, want + 1);
    }

    private void askAny() {
        int n = node();
        int i = near(6);
        int k = near(40);
        switch (random.nextInt(14)) {
            case 0: askName(near(5)); break;
            case 1: askLeaf(near(4)); break;
            case 2: askJoin(); break;
            case 3: due("terms " + n, x.terms(n), y.terms(n)); break;
            case 4: case 5: {
                int what = near(3);
                due("term " + n + " " + i + " " + what, x.term(n, i, what), y.term(n, i, what));
                break;
            }
            case 6: due("write " + n, x.write(n), y.write(n)); break;
            case 7: due("sentence " + i, x.sentence(i), y.sentence(i)); break;
            case 8: due("letter " + i + " " + k, x.letter(i, k), y.letter(i, k)); break;
            case 9: due("line " + i, x.line(i), y.line(i)); break;
            case 10: due("numbered " + n, x.numbered(n), y.numbered(n)); break;
            case 11: due("solvable", x.solvable() ? 1 : 0, y.solvable() ? 1 : 0); break;
            case 12: askLeast(i); break;
            default: askHint(i); break;
        }
    }

    /** The plain model is slow at these, so they are asked of few names, or seldom. */
    private boolean isDear() {
        return y.names.size() > 3 && random.nextInt(8) != 0;
    }

    private void askLeast(int i) {
        if (!isDear()) {
            due("least", x.least(), y.least());
        }
        due("demand " + i, x.demand(i), y.demand(i));
    }

    private void askHint(int i) {
        if (!isDear()) {
            int few = i & 1;
            due("hint " + few, x.hint(few), y.hint(few));
        }
        calls++;
    }

    private void askTexts(int node) {
        due("write " + node, x.write(node), y.write(node));
        for (int i = 0; i < y.sentences.size(); i++) {
            String want = (y.line(i) == 0 ? "" : "[" + y.line(i) + "] ") + y.sentences.get(i);
            checks.due("run " + run + ": sentence " + i + " of " + node, Checks.lineAndText(x, i), want);
        }
        for (int n = 0; n < nodes; n++) {
            checks.due("run " + run + ": numbered " + n, x.numbered(n), y.numbered(n));
        }
    }
}
