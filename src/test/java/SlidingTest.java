import java.util.ArrayList;
import java.util.HashMap;
import java.util.List;
import java.util.Map;

/** Promises 16 to 18: rectify, turn, draw. */
public final class SlidingTest {
    private SlidingTest() {
    }

    public static void main(String[] args) {
        rectifies();
        equalLettersSlideUp();
        nothingLeft();
        nothingToSlide();
        rectifyRefused();
        turns();
        turnRefused();
        turnsBack();
        draws();
        drawsLargest();
        drawsEvenly();
        nothingOfTallTableauxStays();
        Checks.finish();
    }

    private static void rectifies() {
        for (int order = 0; order <= 2; order++) {
            TableauBench x = new TableauBench();
            Checks.setShape(x, 0, 2, 1);
            Checks.setShape(x, 3, 4, 3, 2);
            Checks.setWord(x, 0, 2, 3, 1, 4, 2, 5);
            x.insert(0, false);
            Checks.same("slides by order " + order, x.rectify(0, 3, 0, order), 3);
            Checks.same("P by order " + order, Checks.p(x), "1 2 4 5 / 2 3");
            Checks.same("Q is away", Checks.q(x), "");
            Checks.same("inner stays", Checks.shape(x, 0), "2 1");
            Checks.same("outer stays", Checks.shape(x, 3), "4 3 2");
            Checks.same("the word stays", Checks.word(x, 0), "2 3 1 4 2 5");
            Checks.fails("recover then", IllegalStateException.class, () -> x.recover(0));
        }
    }

    private static void equalLettersSlideUp() {
        TableauBench x = new TableauBench();
        Checks.setShape(x, 0, 1);
        Checks.setShape(x, 1, 2, 1);
        Checks.setWord(x, 1, 7, 7);
        Checks.same("slides", x.rectify(0, 1, 1, 1), 1);
        Checks.same("the one below moves", Checks.p(x), "7 7");
        Checks.setWord(x, 1, 8, 7);
        x.rectify(0, 1, 1, 1);
        Checks.same("the one to the right moves", Checks.p(x), "7 / 8");
        Checks.setShape(x, 1, 1, 1);
        Checks.setWord(x, 1, 3);
        x.rectify(0, 1, 1, 2);
        Checks.same("only one below", Checks.p(x), "3");
        Checks.setShape(x, 1, 2);
        x.rectify(0, 1, 1, 2);
        Checks.same("only one to the right", Checks.p(x), "3");
    }

    private static void nothingLeft() {
        for (int order = 0; order <= 2; order++) {
            TableauBench x = new TableauBench();
            Checks.setShape(x, 2, 9, 5, 3, 2, 2, 1, 1, 1);
            Checks.same("a shape less itself", x.rectify(2, 2, 0, order), 24);
            Checks.same("P", Checks.p(x), "");
            Checks.same("the empty less the empty", x.rectify(0, 1, 0, order), 0);
            Checks.setShape(x, 0, 23);
            Checks.setShape(x, 1, 24);
            Checks.setWord(x, 1, 16);
            Checks.same("one letter far out", x.rectify(0, 1, 1, order), 23);
            Checks.same("P", Checks.p(x), "16");
            Checks.setShape(x, 0, 3, 3, 3, 3, 3, 3, 3, 2);
            Checks.setShape(x, 1, 3, 3, 3, 3, 3, 3, 3, 3);
            Checks.same("one letter far down", x.rectify(0, 1, 1, order), 23);
            Checks.same("P", Checks.p(x), "16");
        }
    }

    private static void nothingToSlide() {
        TableauBench x = new TableauBench();
        Checks.setShape(x, 1, 4, 2, 1);
        Checks.setWord(x, 0, 3, 2, 2, 1, 1, 1, 4);
        Checks.same("no slide", x.rectify(0, 1, 0, 0), 0);
        Checks.same("the tableau itself", Checks.p(x), "1 1 1 4 / 2 2 / 3");
        x.read(1);
        Checks.same("its reading", Checks.word(x, 1), Checks.word(x, 0));
    }

    private static void rectifyRefused() {
        TableauBench x = new TableauBench();
        Checks.setShape(x, 0, 2, 1);
        Checks.setShape(x, 1, 4, 3, 2);
        Checks.setShape(x, 2, 1, 1, 1);
        Checks.setWord(x, 0, 2, 3, 1, 4, 2, 5);
        Checks.setWord(x, 1, 2, 3, 1, 4, 2);
        x.insert(0, false);
        String before = Checks.all(x);
        Class<IllegalArgumentException> argument = IllegalArgumentException.class;
        Checks.fails("order 3", argument, () -> x.rectify(0, 1, 0, 3));
        Checks.fails("order -1", argument, () -> x.rectify(0, 1, 0, -1));
        Checks.fails("order 3 and too few letters", argument, () -> x.rectify(0, 1, 1, 3));
        Checks.fails("outer within inner", argument, () -> x.rectify(1, 0, 0, 0));
        Checks.fails("outer without a box of inner", argument, () -> x.rectify(2, 0, 0, 0));
        Checks.fails("neither within the other", argument, () -> x.rectify(0, 2, 1, 2));
        Class<IllegalStateException> state = IllegalStateException.class;
        Checks.fails("too few letters", state, () -> x.rectify(0, 1, 1, 0));
        Checks.fails("too many letters", state, () -> x.rectify(3, 0, 0, 0));
        Checks.fails("too many letters for none", state, () -> x.rectify(0, 0, 0, 0));
        Checks.noSlot("rectify", () -> x.rectify(4, 1, 0, 0), () -> x.rectify(0, -1, 0, 0),
            () -> x.rectify(0, 1, 2, 0), () -> x.rectify(0, 1, -1, 3), () -> x.rectify(-1, 4, 2, 3),
            () -> x.rectify(1, 0, 2, 0));
        Checks.same("nothing changes", Checks.all(x), before);
        notColumnStrict();
    }

    private static void notColumnStrict() {
        TableauBench x = new TableauBench();
        Checks.setShape(x, 0, 2, 1);
        Checks.setShape(x, 1, 4, 3, 2);
        Checks.setWord(x, 1, 2, 1, 1);
        x.insert(1, false);
        int[][] wrong = {{3, 2, 1, 4, 2, 5}, {2, 3, 4, 1, 2, 5}, {2, 3, 1, 4, 5, 2}, {2, 1, 1, 4, 2, 5}, {2, 3, 1, 2, 2, 5},
            {1, 1, 1, 2, 1, 1}};
        for (int[] word : wrong) {
            Checks.setWord(x, 0, word);
            Checks.fails("rectify " + Checks.word(x, 0), UnsupportedOperationException.class, () -> x.rectify(0, 1, 0, 0));
        }
        Checks.same("P stays", Checks.p(x), "1 1 / 2");
        Checks.same("Q stays", Checks.q(x), "1 3 / 2");
        Checks.setWord(x, 0, 1, 2, 1, 2, 1, 1);
        Checks.same("boxes that only a corner joins", x.rectify(0, 1, 0, 0), 3);
    }

    private static void turns() {
        TableauBench x = new TableauBench();
        Checks.setWord(x, 0, 3, 1, 4, 2, 5);
        x.insert(0, false);
        Checks.same("P at first", Checks.p(x), "1 2 5 / 3 4");
        x.turn();
        Checks.same("P turned", Checks.p(x), "1 2 3 / 4 5");
        Checks.same("Q is away", Checks.q(x), "");
        Checks.fails("recover then", IllegalStateException.class, () -> x.recover(0));
        x.turn();
        Checks.same("P turned back", Checks.p(x), "1 2 5 / 3 4");
        TableauBench y = new TableauBench();
        y.insert(0, false);
        y.turn();
        Checks.same("without boxes", Checks.p(y), "");
        Checks.fails("recover then", IllegalStateException.class, () -> y.recover(0));
    }

    private static void turnRefused() {
        int[][] words = {{2}, {1, 1}, {1, 3}, {2, 3}, {1, 2, 2}, {1, 1, 2}, {16}, {3, 1, 2, 5}, {4, 2, 1, 4}};
        for (int[] word : words) {
            TableauBench x = new TableauBench();
            Checks.setWord(x, 0, word);
            x.insert(0, false);
            Checks.refuses("turn of " + Checks.word(x, 0), x, IllegalStateException.class, x::turn);
            x.recover(1);
            Checks.same("Q is not away", Checks.word(x, 1), Checks.word(x, 0));
        }
    }

    /** To turn twice is to change nothing, and a turned P is that of the word turned around. */
    private static void turnsBack() {
        long seed = 20261117;
        for (int round = 0; round < 60; round++) {
            TableauBench x = new TableauBench();
            List<List<Integer>> shapes = new ArrayList<>(new PlainBench().shapesOf(24 - round % 9));
            shapes.removeIf(shape -> shape.size() > 8);
            List<Integer> shape = shapes.get(37 * round % shapes.size());
            Checks.setShape(x, 0, shape.stream().mapToInt(Integer::intValue).toArray());
            seed = x.draw(0, seed);
            String before = Checks.p(x);
            x.turn();
            x.turn();
            Checks.same("P turned twice", Checks.p(x), before);
        }
        TableauBench x = new TableauBench();
        int[] word = {5, 2, 7, 1, 4, 8, 3, 6};
        int[] turned = {3, 6, 1, 5, 8, 2, 7, 4};
        Checks.setWord(x, 0, word);
        Checks.setWord(x, 1, turned);
        x.insert(0, false);
        x.turn();
        String due = Checks.p(x);
        x.insert(1, false);
        Checks.same("P of the word turned around", Checks.p(x), due);
    }

    private static long next(long seed) {
        return seed * 6364136223846793005L + 1442695040888963407L;
    }

    private static void draws() {
        long[] seeds = {0, 1, 2, 3, 4, 5, 6, 7, -1, -2, 42, Long.MIN_VALUE, Long.MAX_VALUE, 1L << 33};
        for (long seed : seeds) {
            TableauBench x = new TableauBench();
            x.insert(0, false);
            Checks.same("draw of none", x.draw(0, seed), seed);
            Checks.same("P", Checks.p(x), "");
            Checks.fails("recover then", IllegalStateException.class, () -> x.recover(0));
            Checks.setShape(x, 0, 1);
            Checks.same("draw of one", x.draw(0, seed), next(seed));
            Checks.same("P", Checks.p(x), "1");
            Checks.setShape(x, 1, 2);
            boolean first = (next(seed) >>> 33) % 2 == 0;
            Checks.same("draw of two", x.draw(1, seed), first ? next(next(next(seed))) : next(next(seed)));
            Checks.same("P", Checks.p(x), "1 2");
            drawHook(seed);
        }
        TableauBench x = new TableauBench();
        Checks.noSlot("draw", () -> x.draw(4, 0), () -> x.draw(-1, 0));
    }

    /** A shape of a row of 2 and one of 1: the first number, and perhaps a second one, say where 3 is. */
    private static void drawHook(long seed) {
        long s = next(seed);
        int box = (int) ((s >>> 33) % 3);
        if (box == 0) {
            s = next(s);
            box = (s >>> 33) % 2 == 0 ? 1 : 2;
        }
        s = next(s);
        s = (s >>> 33) % 2 == 0 ? next(s) : s;
        s = next(s);
        TableauBench x = new TableauBench();
        Checks.setShape(x, 2, 2, 1);
        Checks.same("draw of 2 1", x.draw(2, seed), s);
        Checks.same("P", Checks.p(x), box == 1 ? "1 3 / 2" : "1 2 / 3");
        Checks.same("the slot stays", Checks.shape(x, 2), "2 1");
    }

    private static void drawsLargest() {
        int[][] shapes = {{24}, {3, 3, 3, 3, 3, 3, 3, 3}, {17, 1, 1, 1, 1, 1, 1, 1}, {9, 5, 3, 2, 2, 1, 1, 1}};
        for (int[] lengths : shapes) {
            TableauBench x = new TableauBench();
            PlainBench plain = new PlainBench();
            Checks.setShape(x, 0, lengths);
            plain.shape(0, Checks.packed(lengths));
            Checks.same("seed", x.draw(0, 99), plain.draw(0, 99));
            for (int r = 0; r < lengths.length; r++) {
                for (int c = 0; c < lengths[r]; c++) {
                    Checks.same("entry", x.entry(false, r, c), plain.entry(false, r, c));
                }
            }
        }
    }

    /** An insertion can make 16 rows, a shape has 8 at the most: the lower ones must be gone with the old P. */
    private static void nothingOfTallTableauxStays() {
        TableauBench x = new TableauBench();
        for (int v = 16; v >= 1; v--) {
            x.letter(0, v);
        }
        Checks.setWord(x, 1, 7, 7);
        Checks.setShape(x, 0, 1);
        Checks.setShape(x, 1, 2, 1);
        x.insert(0, false);
        x.draw(1, 5);
        noLowerRows(x, 2);
        x.turn();
        noLowerRows(x, 2);
        x.insert(0, false);
        x.rectify(0, 1, 1, 0);
        noLowerRows(x, 1);
        x.insert(0, false);
        x.recover(0);
        x.rectify(0, 1, 1, 1);
        noLowerRows(x, 1);
        x.equivalent();
        x.rectify(0, 1, 1, 2);
        noLowerRows(x, 1);
        x.read(0);
        Checks.same("the reading then", Checks.word(x, 0), "7 7");
    }

    private static void noLowerRows(TableauBench x, int from) {
        for (int r = from; r < 17; r++) {
            Checks.same("P at (" + r + ", 0)", x.entry(false, r, 0), 0);
        }
    }

    private static void drawsEvenly() {
        Map<String, Integer> drawn = new HashMap<>();
        long seed = 12345;
        for (int i = 0; i < 5000; i++) {
            TableauBench x = new TableauBench();
            Checks.setShape(x, 0, 3, 2);
            seed = x.draw(0, seed);
            drawn.merge(Checks.p(x), 1, Integer::sum);
        }
        Checks.same("how many tableaux of 3 2", drawn.size(), 5);
        for (Map.Entry<String, Integer> e : drawn.entrySet()) {
            Checks.same(e.getKey() + ", " + e.getValue() + " times of 5000, evenly",
                e.getValue() > 850 && e.getValue() < 1150, true);
        }
    }
}
