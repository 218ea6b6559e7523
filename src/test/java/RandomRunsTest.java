import java.util.Random;

/** All promises: random runs of calls, each answer against that of the plain bench. */
public final class RandomRunsTest {
    private static final int RUNS = 6000;
    // A step may be several calls, and all that is there is asked for at the end: together they stay below 512.
    private static final int MOST_STEPS = 120;

    private final Random random;
    private final TableauBench bench = new TableauBench();
    private final PlainBench plain = new PlainBench();
    private final int limit;
    private String call = "";
    private String got = "";
    private String due = "";

    /** A call that answers something. */
    private interface Answer {
        Object get();
    }

    private RandomRunsTest(long seed) {
        random = new Random(seed);
        limit = 3 + random.nextInt(20);
    }

    public static void main(String[] args) {
        for (int run = 0; run < RUNS; run++) {
            RandomRunsTest test = new RandomRunsTest(run);
            int steps = 1 + test.random.nextInt(MOST_STEPS);
            boolean right = true;
            for (int i = 0; i < steps && right; i++) {
                test.step();
                right = test.got.equals(test.due);
                Checks.same("run " + run + ", step " + i + ": " + test.call, test.got, test.due);
            }
            if (right) {
                test.compareAll(run);
            }
        }
        Checks.finish();
    }

    private void ask(String text, Answer ofBench, Answer ofPlain) {
        call = text;
        got = outcome(ofBench);
        due = outcome(ofPlain);
    }

    private static String outcome(Answer answer) {
        try {
            return String.valueOf(answer.get());
        } catch (RuntimeException e) {
            return "throws." + e.getClass().getSimpleName();
        }
    }

    private static Object nothing(Runnable call) {
        call.run();
        return "nothing";
    }

    private int slot() {
        return random.nextInt(60) == 0 ? (random.nextBoolean() ? 4 : -1) : random.nextInt(4);
    }

    private int word() {
        return random.nextInt(60) == 0 ? (random.nextBoolean() ? 2 : -1) : random.nextInt(2);
    }

    private int boxes() {
        return random.nextInt(25) == 0 ? random.nextInt(28) - 1 : random.nextInt(limit + 1);
    }

    private int letterValue() {
        return random.nextInt(30) == 0 ? random.nextInt(20) - 1 : 1 + random.nextInt(Math.min(16, limit));
    }

    private long packedShape() {
        long w = 0;
        int most = 1 + random.nextInt(7);
        for (int i = 0; i < random.nextInt(9); i++) {
            most = random.nextInt(30) == 0 ? most + 1 : random.nextInt(most + 1);
            w |= (long) most << (8 * i);
        }
        return w;
    }

    private void step() {
        int kind = random.nextInt(24);
        if (kind < 5) {
            askOfShape(kind);
        } else if (kind < 10) {
            askOfWord(kind);
        } else if (kind < 15) {
            askOfInsertion(kind);
        } else if (kind < 19) {
            askOfSliding(kind);
        } else {
            askOfCounts(kind);
        }
    }

    private void askOfShape(int kind) {
        int s = slot();
        int i = random.nextInt(12) - 2;
        int n = boxes();
        int r = random.nextInt(8) == 0 ? random.nextInt(1600) - 2 : random.nextInt(1 + n * n / 3);
        long w = packedShape();
        switch (kind) {
            case 0 -> ask("shape " + s + " " + w, () -> bench.shape(s, w), () -> plain.shape(s, w));
            case 1 -> ask("row " + s + " " + i, () -> bench.row(s, i), () -> plain.row(s, i));
            case 2 -> ask("conjugate " + s, () -> bench.conjugate(s), () -> plain.conjugate(s));
            case 3 -> ask("rank " + s, () -> bench.rank(s), () -> plain.rank(s));
            default -> ask("unrank " + s + " " + n + " " + r,
                () -> nothing(() -> bench.unrank(s, n, r)), () -> nothing(() -> plain.unrank(s, n, r)));
        }
    }

    private void askOfWord(int kind) {
        int w = word();
        int v = letterValue();
        int n = random.nextInt(18) - 1;
        switch (kind) {
            case 5 -> ask("cut " + w + " " + n, () -> bench.cut(w, n), () -> plain.cut(w, n));
            case 6 -> ask("length " + w, () -> bench.length(w), () -> plain.length(w));
            case 7 -> ask("at " + w + " " + n, () -> bench.at(w, n), () -> plain.at(w, n));
            default -> {
                for (int k = 0; k < 3; k++) {
                    ask("letter " + w + " " + v, () -> bench.letter(w, v), () -> plain.letter(w, v));
                }
            }
        }
    }

    private void askOfInsertion(int kind) {
        int w = word();
        boolean b = random.nextBoolean();
        int r = random.nextInt(6) - 1;
        int c = random.nextInt(6) - 1;
        switch (kind) {
            case 10 -> ask("insert " + w + " " + b, () -> bench.insert(w, b), () -> plain.insert(w, b));
            case 11 -> ask("entry " + b + " " + r + " " + c, () -> bench.entry(b, r, c), () -> plain.entry(b, r, c));
            case 12 -> ask("recover " + w, () -> nothing(() -> bench.recover(w)), () -> nothing(() -> plain.recover(w)));
            case 13 -> ask("read " + w, () -> nothing(() -> bench.read(w)), () -> nothing(() -> plain.read(w)));
            default -> ask("equivalent", bench::equivalent, plain::equivalent);
        }
    }

    private void askOfSliding(int kind) {
        int s = slot();
        long seed = random.nextLong();
        switch (kind) {
            case 15 -> ask("turn", () -> nothing(bench::turn), () -> nothing(plain::turn));
            case 16 -> ask("draw " + s + " " + seed, () -> bench.draw(s, seed), () -> plain.draw(s, seed));
            default -> askRectify();
        }
    }

    /** Most of the time with a filling that is right but for now and then a letter. */
    private void askRectify() {
        int a = slot();
        int b = slot();
        int w = word();
        int order = random.nextInt(5) == 0 ? random.nextInt(5) - 1 : random.nextInt(3);
        if (a >= 0 && a < 4 && b >= 0 && b < 4 && w >= 0 && w < 2 && random.nextInt(5) != 0) {
            makeFilling(a, b, w);
        }
        ask("rectify " + a + " " + b + " " + w + " " + order,
            () -> bench.rectify(a, b, w, order), () -> plain.rectify(a, b, w, order));
    }

    private void makeFilling(int inner, int outer, int word) {
        int[][] letters = new int[8][];
        for (int r = 0; r < 8; r++) {
            letters[r] = new int[plain.row(outer, r)];
            for (int c = plain.row(inner, r); c < letters[r].length; c++) {
                int before = c == 0 ? 1 : letters[r][c - 1];
                int above = r == 0 ? 0 : letters[r - 1][c];
                letters[r][c] = Math.max(Math.max(before, above + 1), 1) + (random.nextInt(3) == 0 ? 1 : 0);
            }
        }
        bench.cut(word, 0);
        plain.cut(word, 0);
        for (int r = 7; r >= 0; r--) {
            for (int c = plain.row(inner, r); c < letters[r].length; c++) {
                int v = random.nextInt(60) == 0 ? letterValue() : letters[r][c];
                bench.letter(word, v);
                plain.letter(word, v);
            }
        }
    }

    private void askOfCounts(int kind) {
        int a = slot();
        int b = slot();
        int c = slot();
        int w = word();
        switch (kind) {
            case 19 -> ask("standard " + a, () -> bench.standard(a), () -> plain.standard(a));
            case 20 -> ask("fillings " + a + " " + w, () -> bench.fillings(a, w), () -> plain.fillings(a, w));
            case 21 -> ask("character " + a + " " + b, () -> bench.character(a, b), () -> plain.character(a, b));
            default -> askCoefficient(a, b, c);
        }
    }

    /** The plain bench tries all fillings, so that the content is kept small. */
    private void askCoefficient(int a, int b, int c) {
        boolean small = b < 0 || b > 3;
        if (!small) {
            int sum = 0;
            for (int i = 0; i < 8; i++) {
                sum += plain.row(b, i);
            }
            small = sum <= 9;
        }
        if (small) {
            ask("coefficient " + a + " " + b + " " + c,
                () -> bench.coefficient(a, b, c), () -> plain.coefficient(a, b, c));
        }
    }

    private void compareAll(int run) {
        String what = "run " + run + ", at its end: ";
        for (int s = 0; s < 4; s++) {
            for (int i = 0; i < 8; i++) {
                Checks.same(what + "row", bench.row(s, i), plain.row(s, i));
            }
        }
        for (int w = 0; w < 2; w++) {
            for (int i = 0; i < 16; i++) {
                Checks.same(what + "at", bench.at(w, i), plain.at(w, i));
            }
        }
        for (int r = 0; r < 16; r++) {
            for (int c = 0; c < (r < 5 ? 5 : 1); c++) {
                Checks.same(what + "P", bench.entry(false, r, c), plain.entry(false, r, c));
                Checks.same(what + "Q", bench.entry(true, r, c), plain.entry(true, r, c));
            }
        }
    }
}
