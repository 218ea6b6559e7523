import java.util.List;

/** Promises 19 to 22: standard, fillings, coefficient, character. */
public final class CountingTest {
    private static final String[] FOURS = {"4", "3 1", "2 2", "2 1 1", "1 1 1 1"};
    private static final long[][] CHARACTERS_OF_FOURS = {
        {1, 1, 1, 1, 1}, {-1, 0, -1, 1, 3}, {0, -1, 2, 0, 2}, {1, 0, -1, -1, 3}, {-1, 1, 1, -1, 1},
    };

    private CountingTest() {
    }

    public static void main(String[] args) {
        standards();
        standardsOfAllShapes();
        squaresOfStandards();
        fillingsKnown();
        fillingsOfAllSmall();
        fillingsOfLargest();
        coefficientsKnown();
        coefficientsOfAllSmall();
        coefficientsOfLargest();
        charactersKnown();
        charactersOfAll();
        charactersAreOrthogonal();
        characterRefused();
        nothingChanges();
        Checks.finish();
    }

    private static void standards() {
        int[][] shapes = {{}, {1}, {2, 1}, {3, 2, 1}, {4, 2}, {5, 4, 3, 2, 1}, {12, 12}, {8, 8, 8}, {24}, {23, 1},
            {3, 3, 3, 3, 3, 3, 3, 3}, {6, 5, 4, 3, 2, 1}, {17, 1, 1, 1, 1, 1, 1, 1}};
        long[] due = {1, 1, 2, 16, 9, 292864, 208012, 23371634, 1, 23, 23371634, 1100742656L, 245157};
        for (int i = 0; i < shapes.length; i++) {
            TableauBench x = new TableauBench();
            Checks.setShape(x, 3, shapes[i]);
            Checks.same("standard of " + Checks.shape(x, 3), x.standard(3), due[i]);
        }
        TableauBench x = new TableauBench();
        Checks.noSlot("standard", () -> x.standard(4), () -> x.standard(-1));
    }

    private static void standardsOfAllShapes() {
        PlainBench plain = new PlainBench();
        for (int n = 0; n <= 24; n++) {
            for (List<Integer> shape : plain.shapesOf(n)) {
                if (shape.size() <= 8) {
                    TableauBench x = new TableauBench();
                    set(x, plain, 0, shape);
                    Checks.same("standard of " + shape, x.standard(0), plain.standard(0));
                }
            }
        }
    }

    private static void squaresOfStandards() {
        PlainBench plain = new PlainBench();
        long factorial = 1;
        for (int n = 1; n <= 8; n++) {
            factorial *= n;
            long sum = 0;
            for (List<Integer> shape : plain.shapesOf(n)) {
                TableauBench x = new TableauBench();
                set(x, plain, 0, shape);
                sum += x.standard(0) * x.standard(0);
            }
            Checks.same("pairs of standard tableaux of " + n, sum, factorial);
        }
    }

    private static void set(TableauBench x, PlainBench plain, int slot, List<Integer> shape) {
        int[] lengths = shape.stream().mapToInt(Integer::intValue).toArray();
        Checks.setShape(x, slot, lengths);
        plain.shape(slot, Checks.packed(lengths));
    }

    private static void setWord(TableauBench x, PlainBench plain, int word, int... letters) {
        Checks.setWord(x, word, letters);
        plain.cut(word, 0);
        for (int v : letters) {
            plain.letter(word, v);
        }
    }

    private static void fillingsKnown() {
        TableauBench x = new TableauBench();
        Checks.same("none in none", x.fillings(0, 0), 1);
        Checks.setShape(x, 1, 3, 2, 1);
        Checks.same("too few letters", x.fillings(1, 0), 0);
        Checks.setWord(x, 0, 1, 2, 3, 1, 2, 3);
        Checks.same("112233 in 3 2 1", x.fillings(1, 0), 2);
        Checks.same("too many letters", x.fillings(0, 0), 0);
        Checks.setWord(x, 1, 16, 9, 4, 4, 16, 9);
        Checks.same("other letters", x.fillings(1, 1), 2);
        Checks.setWord(x, 1, 6, 5, 4, 3, 2, 1);
        Checks.same("123456 in 3 2 1", x.fillings(1, 1), 16);
        Checks.setWord(x, 1, 1, 1, 1, 2, 2, 3);
        Checks.same("111223 in 3 2 1", x.fillings(1, 1), 1);
        Checks.setWord(x, 1, 3, 3, 3, 2, 2, 1);
        Checks.same("122333 in 3 2 1", x.fillings(1, 1), 1);
        Checks.setWord(x, 1, 1, 1, 1, 1, 2, 3);
        Checks.same("111123 in 3 2 1", x.fillings(1, 1), 0);
        Checks.setWord(x, 1, 1, 1, 2, 2, 3, 4);
        Checks.same("112234 in 3 2 1", x.fillings(1, 1), 4);
        Checks.noSlot("fillings", () -> x.fillings(4, 0), () -> x.fillings(-1, 0), () -> x.fillings(0, 2),
            () -> x.fillings(0, -1));
    }

    /** All shapes and all contents of seven letters, which are made of a shape's lengths, forwards and backwards. */
    private static void fillingsOfAllSmall() {
        PlainBench plain = new PlainBench();
        for (List<Integer> shape : plain.shapesOf(7)) {
            for (List<Integer> content : plain.shapesOf(7)) {
                TableauBench x = new TableauBench();
                set(x, plain, 2, shape);
                int[] letters = new int[7];
                int place = 0;
                for (int i = 0; i < content.size(); i++) {
                    for (int k = 0; k < content.get(i); k++) {
                        letters[place] = i + 1;
                        place++;
                    }
                }
                setWord(x, plain, 0, letters);
                Checks.same(content + " in " + shape, x.fillings(2, 0), plain.fillings(2, 0));
                for (int i = 0; i < 7; i++) {
                    letters[i] = 17 - 2 * letters[i];
                }
                setWord(x, plain, 1, letters);
                Checks.same(content + " backwards in " + shape, x.fillings(2, 1), plain.fillings(2, 1));
            }
        }
    }

    private static void fillingsOfLargest() {
        int[][] words = {{1, 2, 3, 4, 5, 6, 7, 8, 9, 10, 11, 12, 13, 14, 15, 16},
            {1, 1, 2, 2, 3, 3, 4, 4, 5, 5, 6, 6, 7, 7, 8, 8}, {8, 7, 6, 5, 4, 3, 2, 1, 1, 2, 3, 4, 5, 5, 5, 9},
            {3, 3, 3, 9, 9, 9, 9, 9, 4, 4, 16, 16, 15, 1, 1, 2}, {5, 5, 5, 5, 5, 5, 5, 5, 5, 5, 5, 5, 5, 5, 5, 5}};
        PlainBench plain = new PlainBench();
        for (List<Integer> shape : plain.shapesOf(16)) {
            if (shape.size() <= 8) {
                TableauBench x = new TableauBench();
                set(x, plain, 1, shape);
                for (int i = 0; i < words.length; i++) {
                    setWord(x, plain, 0, words[i]);
                    Checks.same("word " + i + " in " + shape, x.fillings(1, 0), plain.fillings(1, 0));
                }
                Checks.setWord(x, 0, words[0]);
                Checks.same("all letters in " + shape, x.fillings(1, 0), x.standard(1));
            }
        }
    }

    private static void coefficientsKnown() {
        TableauBench x = new TableauBench();
        Checks.same("none by none in none", x.coefficient(0, 1, 2), 1);
        Checks.setShape(x, 0, 2, 1);
        Checks.setShape(x, 1, 3, 2, 1);
        Checks.same("21 by 21 in 321", x.coefficient(0, 0, 1), 2);
        Checks.same("21 by none in 21", x.coefficient(0, 2, 0), 1);
        Checks.same("none by 21 in 21", x.coefficient(2, 0, 0), 1);
        Checks.same("none by 21 in 321", x.coefficient(2, 0, 1), 0);
        Checks.same("21 by 21 in 21", x.coefficient(0, 0, 0), 0);
        Checks.same("321 by none in 21", x.coefficient(1, 2, 0), 0);
        Checks.setShape(x, 3, 2, 2, 2);
        Checks.same("21 by 21 in 222", x.coefficient(0, 0, 3), 1);
        Checks.setShape(x, 3, 5, 1);
        Checks.same("21 by 21 in 51", x.coefficient(0, 0, 3), 0);
        Checks.setShape(x, 2, 3);
        Checks.setShape(x, 3, 2, 2, 2);
        Checks.same("3 by 21 in 222, which has not all of 3", x.coefficient(2, 0, 3), 0);
        Checks.same("21 by 3 in 222", x.coefficient(0, 2, 3), 0);
        Checks.noSlot("coefficient", () -> x.coefficient(4, 0, 0), () -> x.coefficient(-1, 0, 0),
            () -> x.coefficient(0, 4, 0), () -> x.coefficient(0, -1, 0), () -> x.coefficient(0, 0, 4),
            () -> x.coefficient(0, 0, -1));
        coefficientsOfStaircase();
    }

    private static void coefficientsOfStaircase() {
        TableauBench x = new TableauBench();
        Checks.setShape(x, 0, 6, 5, 4, 3, 2, 1);
        Checks.setShape(x, 1, 4, 3, 2, 1);
        Checks.setShape(x, 2, 5, 3, 2, 1);
        Checks.same("4321 by 5321 in 654321", x.coefficient(1, 2, 0), 24);
        Checks.same("5321 by 4321 in 654321", x.coefficient(2, 1, 0), 24);
    }

    private static void coefficientsOfAllSmall() {
        PlainBench plain = new PlainBench();
        for (int n = 0; n <= 4; n++) {
            for (int m = 0; m <= 4; m++) {
                for (List<Integer> a : plain.shapesOf(n)) {
                    for (List<Integer> b : plain.shapesOf(m)) {
                        for (List<Integer> c : plain.shapesOf(n + m)) {
                            TableauBench x = new TableauBench();
                            set(x, plain, 0, a);
                            set(x, plain, 1, b);
                            set(x, plain, 2, c);
                            long due = plain.coefficient(0, 1, 2);
                            Checks.same(a + " by " + b + " in " + c, x.coefficient(0, 1, 2), due);
                            Checks.same(b + " by " + a + " in " + c, x.coefficient(1, 0, 2), due);
                        }
                    }
                }
            }
        }
    }

    /** Standard tableaux of the product, counted as pairs with a choice of letters, and shape by shape. */
    private static void coefficientsOfLargest() {
        List<List<Integer>> firsts = List.of(List.of(5, 3, 2, 1), List.of(4, 3, 2, 1), List.of(8, 4), List.of(2, 2, 2, 2));
        List<List<Integer>> seconds = List.of(List.of(6, 4, 2, 1), List.of(5, 4, 3, 2), List.of(6, 6), List.of(9, 3, 3, 1));
        PlainBench plain = new PlainBench();
        for (int i = 0; i < firsts.size(); i++) {
            int n = firsts.get(i).stream().mapToInt(Integer::intValue).sum();
            int m = seconds.get(i).stream().mapToInt(Integer::intValue).sum();
            long sum = 0;
            for (List<Integer> c : plain.shapesOf(n + m)) {
                if (c.size() <= 8) {
                    TableauBench x = new TableauBench();
                    set(x, plain, 0, firsts.get(i));
                    set(x, plain, 1, seconds.get(i));
                    set(x, plain, 3, c);
                    long count = x.coefficient(0, 1, 3);
                    Checks.same("the other way round", x.coefficient(1, 0, 3), count);
                    sum += count * x.standard(3);
                }
            }
            Checks.same("in all", sum, choices(n + m, n) * plain.standard(0) * plain.standard(1));
        }
    }

    private static long choices(int n, int k) {
        long count = 1;
        for (int i = 1; i <= k; i++) {
            count = count * (n - k + i) / i;
        }
        return count;
    }

    private static void charactersKnown() {
        PlainBench plain = new PlainBench();
        for (int i = 0; i < FOURS.length; i++) {
            for (int j = 0; j < FOURS.length; j++) {
                TableauBench x = new TableauBench();
                set(x, plain, 0, plain.shapesOf(4).get(i));
                set(x, plain, 1, plain.shapesOf(4).get(j));
                Checks.same("character of " + FOURS[i] + " at " + FOURS[j], x.character(0, 1), CHARACTERS_OF_FOURS[i][j]);
            }
        }
        TableauBench x = new TableauBench();
        Checks.same("none at none", x.character(0, 1), 1);
        Checks.setShape(x, 0, 14);
        Checks.same("14 at 14", x.character(0, 0), 1);
        Checks.setShape(x, 1, 7, 1, 1, 1, 1, 1, 1, 1);
        Checks.same("a hook of 14 at 14", x.character(1, 0), -1);
        Checks.same("14 at a hook of 14", x.character(0, 1), 1);
        Checks.setShape(x, 2, 2, 2, 2, 2, 2, 2, 2);
        Checks.setShape(x, 3, 7, 7);
        Checks.same("seven twos at 7 7", x.character(2, 3), 2);
        Checks.same("7 7 at seven twos", x.character(3, 2), -35);
    }

    private static void charactersOfAll() {
        PlainBench plain = new PlainBench();
        int[] sizes = {5, 8, 11, 14};
        for (int n : sizes) {
            for (List<Integer> s : plain.shapesOf(n)) {
                for (List<Integer> t : plain.shapesOf(n)) {
                    if (s.size() <= 8 && t.size() <= 8) {
                        TableauBench x = new TableauBench();
                        set(x, plain, 2, s);
                        set(x, plain, 3, t);
                        Checks.same("character of " + s + " at " + t, x.character(2, 3), plain.character(2, 3));
                    }
                }
            }
        }
    }

    private static void charactersAreOrthogonal() {
        PlainBench plain = new PlainBench();
        List<List<Integer>> shapes = plain.shapesOf(7);
        for (int i = 0; i < shapes.size(); i++) {
            for (int j = 0; j < i; j++) {
                long sum = 0;
                for (List<Integer> s : shapes) {
                    TableauBench x = new TableauBench();
                    set(x, plain, 0, s);
                    set(x, plain, 1, shapes.get(i));
                    set(x, plain, 2, shapes.get(j));
                    sum += x.character(0, 1) * x.character(0, 2);
                }
                Checks.same("characters at " + shapes.get(i) + " and " + shapes.get(j), sum, 0);
            }
        }
    }

    private static void characterRefused() {
        TableauBench x = new TableauBench();
        Checks.setShape(x, 0, 8, 7);
        Checks.setShape(x, 1, 15);
        Checks.setShape(x, 2, 14);
        Checks.refuses("character of 15 boxes", x, UnsupportedOperationException.class, () -> x.character(0, 1));
        Checks.fails("of 15 at 14", IllegalStateException.class, () -> x.character(0, 2));
        Checks.fails("of 14 at 15", IllegalStateException.class, () -> x.character(2, 0));
        Checks.fails("of 14 at none", IllegalStateException.class, () -> x.character(2, 3));
        Checks.setShape(x, 3, 24);
        Checks.fails("of 24", UnsupportedOperationException.class, () -> x.character(3, 3));
        Checks.fails("of 24 at 15", IllegalStateException.class, () -> x.character(3, 1));
        Checks.noSlot("character", () -> x.character(4, 0), () -> x.character(-1, 0), () -> x.character(0, 4),
            () -> x.character(0, -1));
    }

    private static void nothingChanges() {
        TableauBench x = new TableauBench();
        Checks.setShape(x, 0, 2, 1);
        Checks.setShape(x, 1, 2, 2);
        Checks.setShape(x, 2, 4, 2, 1);
        Checks.setWord(x, 0, 3, 1, 2);
        x.insert(0, true);
        String before = Checks.all(x);
        x.standard(2);
        x.fillings(0, 0);
        x.coefficient(0, 1, 2);
        x.character(0, 0);
        Checks.same("counts change nothing", Checks.all(x), before);
        x.recover(1);
        Checks.same("Q is not away", x.length(1), 3);
    }
}
