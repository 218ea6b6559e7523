import java.util.Arrays;
import java.util.List;

/** The boundary cases that the document names for counts: "Terms" on products and characters, and promises 19 to 22. */
public final class EdgesOfCountsTest {
    private static final Class<IllegalStateException> STATE = IllegalStateException.class;
    private static final Class<UnsupportedOperationException> OPERATION = UnsupportedOperationException.class;
    private static final int[] NONE = {};
    private static final long GREATEST_STANDARD = 117487079424L;
    private static final long GREATEST_FILLINGS = 1153152;
    private static final int[] EIGHT_ONES = {1, 1, 1, 1, 1, 1, 1, 1};

    private EdgesOfCountsTest() {
    }

    public static void main(String[] args) {
        countsOfTableaux();
        products();
        characters();
        Checks.finish();
    }

    private static void countsOfTableaux() {
        Checks.sentence("19: 1 of that without boxes", EdgesOfCountsTest::standardOfNone);
        Checks.sentence("19: The number of standard tableaux of a shape", EdgesOfCountsTest::standardAtLimits);
        Checks.sentence("All counts fit into a long (standard)", EdgesOfCountsTest::greatestStandard);
        Checks.sentence("20: The number of tableaux that have as many of each letter as the word",
            EdgesOfCountsTest::fillingsAtLimits);
        Checks.sentence("20: (of a shape without boxes)", EdgesOfCountsTest::fillingsOfNone);
        Checks.sentence("20: 0 when the word has not as many letters as the shape boxes",
            EdgesOfCountsTest::otherNumberOfLetters);
        Checks.sentence("All counts fit into a long (fillings)", EdgesOfCountsTest::greatestFillings);
    }

    private static void products() {
        Checks.sentence("column-strict fillings of the boxes that c has and a has not", EdgesOfCountsTest::strictProducts);
        Checks.sentence("with as many letters i + 1 as row i of b is long", EdgesOfCountsTest::productLetters);
        Checks.sentence("has at every place, up to there, not more letters i + 1 than letters i, for all i",
            EdgesOfCountsTest::latticeWords);
        Checks.sentence("the reading, taken from its end to its beginning", EdgesOfCountsTest::fromTheEnd);
        Checks.sentence("It is 0, if c has not all boxes of a", EdgesOfCountsTest::notWithin);
        Checks.sentence("or its number of boxes is not that of a and b together", EdgesOfCountsTest::otherNumberOfBoxes);
        Checks.sentence("21: of the shapes of three slots (without boxes, or the same ones)", EdgesOfCountsTest::productsOfNone);
        Checks.sentence("21: of the shapes of three slots (24 boxes, 8 rows)", EdgesOfCountsTest::productsAtLimits);
    }

    private static void characters() {
        Checks.sentence("1, if both have none", EdgesOfCountsTest::characterOfNone);
        Checks.sentence("the sum over all ways to take a RIM HOOK off s", EdgesOfCountsTest::allWays);
        Checks.sentence("(-1) ^ (the number of rows that the hook touches, less 1)", EdgesOfCountsTest::signs);
        Checks.sentence("which hang together side by side", EdgesOfCountsTest::hangTogether);
        Checks.sentence("of which no four make a square of two by two", EdgesOfCountsTest::noSquares);
        Checks.sentence("at what is left of t behind its first row", EdgesOfCountsTest::restOfType);
        Checks.sentence("22: IllegalStateException when they have not as many boxes", EdgesOfCountsTest::otherBoxes);
        Checks.sentence("22: UnsupportedOperationException when these are more than 14", EdgesOfCountsTest::tooManyBoxes);
        Checks.sentence("22: (14 boxes, 8 rows)", EdgesOfCountsTest::charactersAtLimits);
    }

    private static String text(int... numbers) {
        return Arrays.toString(numbers).replaceAll("[\\[\\],]", "");
    }

    private static int[] array(List<Integer> shape) {
        return shape.stream().mapToInt(Integer::intValue).toArray();
    }

    private static void standard(long due, int... lengths) {
        TableauBench x = Benches.used();
        Checks.setShape(x, 2, lengths);
        Checks.same("standard of " + text(lengths), x.standard(2), due);
    }

    private static void standardOfNone() {
        TableauBench x = Benches.used();
        for (int s = 0; s < 4; s++) {
            Checks.same("standard of slot " + s + " at first", x.standard(s), 1);
            Checks.setShape(x, s, 3, 2, 1);
            Checks.same("standard of 3 2 1", x.standard(s), 16);
            Checks.setShape(x, s);
            Checks.same("standard of none again", x.standard(s), 1);
        }
    }

    private static void standardAtLimits() {
        for (int n = 1; n <= 24; n++) {
            standard(1, n);
            if (n >= 2) {
                standard(n - 1, n - 1, 1);
            }
            if (n <= 8) {
                standard(1, Arrays.copyOf(EIGHT_ONES, n));
            }
        }
        standard(2, 2, 2);
        standard(5, 3, 2);
        standard(245157, 17, 1, 1, 1, 1, 1, 1, 1);
        standard(208012, 12, 12);
        standard(23371634, 3, 3, 3, 3, 3, 3, 3, 3);
        standard(23371634, 8, 8, 8);
        standard(140229804, 4, 4, 4, 4, 4, 4);
        standard(140229804, 6, 6, 6, 6);
    }

    /** Of all shapes of 24 boxes that a slot can have. */
    private static void greatestStandard() {
        long greatest = 0;
        PlainBench plain = new PlainBench();
        for (List<Integer> shape : plain.shapesOf(24)) {
            if (shape.size() <= 8) {
                TableauBench x = Benches.used();
                Checks.setShape(x, 1, array(shape));
                plain.shape(1, Checks.packed(array(shape)));
                Checks.same("standard of " + shape, x.standard(1), plain.standard(1));
                greatest = Math.max(greatest, x.standard(1));
            }
        }
        Checks.same("the greatest", greatest, GREATEST_STANDARD);
    }

    private static void fillings(long due, int[] lengths, int... letters) {
        for (int w = 0; w < 2; w++) {
            TableauBench x = Benches.used();
            Checks.setShape(x, 3, lengths);
            Checks.setWord(x, w, letters);
            Checks.same("fillings of " + text(lengths) + " with " + text(letters), x.fillings(3, w), due);
        }
    }

    private static void fillingsAtLimits() {
        fillings(1, new int[] {1}, 1);
        fillings(1, new int[] {1}, 16);
        fillings(1, new int[] {2}, 16, 16);
        fillings(0, new int[] {1, 1}, 16, 16);
        fillings(1, new int[] {1, 1}, 16, 1);
        fillings(1, new int[] {2}, 16, 1);
        fillings(2, new int[] {2, 1}, 3, 1, 2);
        fillings(1, new int[] {2, 1}, 2, 1, 2);
        fillings(1, new int[] {2, 1}, 2, 1, 1);
        fillings(0, new int[] {2, 1}, 2, 2, 2);
        fillings(2, new int[] {3, 2, 1}, 16, 9, 4, 4, 16, 9);
        int[] eight = {8, 7, 6, 5, 4, 3, 2, 1};
        fillings(1, EIGHT_ONES, eight);
        fillings(0, EIGHT_ONES, 8, 7, 6, 5, 4, 3, 2, 2);
        fillings(1, new int[] {8}, eight);
        int[] all = {16, 15, 14, 13, 12, 11, 10, 9, 8, 7, 6, 5, 4, 3, 2, 1};
        fillings(1, new int[] {16}, all);
        fillings(1430, new int[] {8, 8}, all);
        fillings(1430, new int[] {2, 2, 2, 2, 2, 2, 2, 2}, all);
        fillings(24024, new int[] {4, 4, 4, 4}, all);
        fillings(1, new int[] {2, 2, 2, 2, 2, 2, 2, 2}, 1, 1, 2, 2, 3, 3, 4, 4, 5, 5, 6, 6, 7, 7, 16, 16);
        fillings(1, new int[] {16}, 16, 16, 16, 16, 16, 16, 16, 16, 16, 16, 16, 16, 16, 16, 16, 16);
        fillings(0, new int[] {15, 1}, 16, 16, 16, 16, 16, 16, 16, 16, 16, 16, 16, 16, 16, 16, 16, 16);
    }

    private static void fillingsOfNone() {
        TableauBench x = Benches.used();
        for (int s = 0; s < 4; s++) {
            Checks.same("none with none", x.fillings(s, 0), 1);
            Checks.same("none with none", x.fillings(s, 1), 1);
        }
        x.letter(0, 1);
        Checks.same("none with one", x.fillings(0, 0), 0);
        Checks.setShape(x, 0, 1);
        Checks.same("one with one", x.fillings(0, 0), 1);
        Checks.same("one with none", x.fillings(0, 1), 0);
        x.cut(0, 0);
        Checks.same("none with none again", x.fillings(1, 0), 1);
    }

    /** Words whose beginning or whose every letter would fit, had they the right number. */
    private static void otherNumberOfLetters() {
        PlainBench plain = new PlainBench();
        for (int n = 0; n <= 24; n++) {
            List<List<Integer>> shapes = plain.shapesOf(n);
            for (int i = 0; i < shapes.size() && i < 12; i++) {
                TableauBench x = Benches.used();
                if (shapes.get(i).size() > 8) {
                    continue;
                }
                Checks.setShape(x, 0, array(shapes.get(i)));
                Checks.setWord(x, 0, 1, 2, 3, 4, 5, 6, 7, 8, 9, 10, 11, 12, 13, 14, 15, 16);
                Checks.setWord(x, 1, 1, 1, 1, 1, 1, 1, 1, 1, 1, 1, 1, 1, 1, 1, 1, 1);
                for (int length = 16; length >= 0; length--) {
                    x.cut(0, length);
                    x.cut(1, length);
                    String what = length + " letters in " + shapes.get(i);
                    Checks.same(what, x.fillings(0, 0), length == n ? x.standard(0) : 0);
                    Checks.same(what + ", all 1", x.fillings(0, 1), length == n && i == 0 ? 1 : 0);
                }
            }
        }
    }

    private static void greatestFillings() {
        long greatest = 0;
        PlainBench plain = new PlainBench();
        for (List<Integer> shape : plain.shapesOf(16)) {
            if (shape.size() <= 8) {
                TableauBench x = Benches.used();
                Checks.setShape(x, 1, array(shape));
                Checks.setWord(x, 1, 1, 2, 3, 4, 5, 6, 7, 8, 9, 10, 11, 12, 13, 14, 15, 16);
                Checks.same("fillings of " + shape, x.fillings(1, 1), x.standard(1));
                greatest = Math.max(greatest, x.fillings(1, 1));
            }
        }
        Checks.same("the greatest", greatest, GREATEST_FILLINGS);
    }

    private static void product(long due, int[] a, int[] b, int[] c) {
        TableauBench x = Benches.used();
        Checks.setShape(x, 0, a);
        Checks.setShape(x, 1, b);
        Checks.setShape(x, 2, c);
        String what = text(a) + " by " + text(b) + " in " + text(c);
        Checks.same(what, x.coefficient(0, 1, 2), due);
        Checks.same(what + ", the other way round", x.coefficient(1, 0, 2), due);
    }

    /** A product by one row gives shapes of which no two more boxes are in a column, by one column none in a row. */
    private static void strictProducts() {
        product(1, new int[] {2}, new int[] {2}, new int[] {4});
        product(1, new int[] {2}, new int[] {2}, new int[] {3, 1});
        product(1, new int[] {2}, new int[] {2}, new int[] {2, 2});
        product(0, new int[] {2}, new int[] {2}, new int[] {2, 1, 1});
        product(0, new int[] {2}, new int[] {1, 1}, new int[] {4});
        product(1, new int[] {2}, new int[] {1, 1}, new int[] {3, 1});
        product(1, new int[] {2}, new int[] {1, 1}, new int[] {2, 1, 1});
        product(0, new int[] {2}, new int[] {1, 1}, new int[] {2, 2});
        product(1, new int[] {1, 1}, new int[] {1, 1}, new int[] {1, 1, 1, 1});
        product(1, new int[] {4, 4}, new int[] {4}, new int[] {4, 4, 4});
        product(0, new int[] {4, 4}, new int[] {5}, new int[] {4, 4, 4, 1});
    }

    private static void productLetters() {
        product(1, new int[] {2, 1}, new int[] {3}, new int[] {5, 1});
        product(0, new int[] {2, 1}, new int[] {2, 1}, new int[] {5, 1});
        product(1, new int[] {2, 1}, new int[] {2, 1}, new int[] {4, 2});
        product(1, new int[] {2, 1}, new int[] {2, 1}, new int[] {4, 1, 1});
        product(1, new int[] {2, 1}, new int[] {2, 1}, new int[] {3, 3});
        product(2, new int[] {2, 1}, new int[] {2, 1}, new int[] {3, 2, 1});
        product(1, new int[] {2, 1}, new int[] {2, 1}, new int[] {3, 1, 1, 1});
        product(1, new int[] {2, 1}, new int[] {2, 1}, new int[] {2, 2, 2});
        product(1, new int[] {2, 1}, new int[] {2, 1}, new int[] {2, 2, 1, 1});
        product(0, new int[] {2, 1}, new int[] {2, 1}, new int[] {6});
        product(0, new int[] {2, 1}, new int[] {2, 1}, new int[] {2, 1, 1, 1, 1});
    }

    private static void latticeWords() {
        product(0, NONE, new int[] {2, 1}, new int[] {1, 1, 1});
        product(0, NONE, new int[] {2, 1}, new int[] {3});
        product(0, NONE, new int[] {2, 2}, new int[] {3, 1});
        product(1, NONE, new int[] {2, 2}, new int[] {2, 2});
        product(0, new int[] {1}, new int[] {1, 1}, new int[] {3});
        product(1, new int[] {1}, new int[] {1, 1}, new int[] {2, 1});
        product(1, new int[] {1}, new int[] {2}, new int[] {2, 1});
        product(0, new int[] {2}, new int[] {2, 2}, new int[] {5, 1});
        product(1, new int[] {1}, Arrays.copyOf(EIGHT_ONES, 7), EIGHT_ONES);
        product(0, new int[] {2}, Arrays.copyOf(EIGHT_ONES, 7), new int[] {2, 2, 1, 1, 1, 1, 1});
        product(4, new int[] {3, 2, 1}, new int[] {3, 2, 1}, new int[] {5, 4, 2, 1});
    }

    /** The reading of 1 1 / 2 begins with 2: from its beginning, it would not count. */
    private static void fromTheEnd() {
        product(1, NONE, new int[] {2, 1}, new int[] {2, 1});
        product(1, NONE, EIGHT_ONES, EIGHT_ONES);
        product(1, new int[] {1}, new int[] {1, 1}, new int[] {1, 1, 1});
        product(0, new int[] {1}, new int[] {2}, new int[] {1, 1, 1});
        product(1, new int[] {2, 1}, new int[] {2, 1}, new int[] {3, 3});
        product(1, new int[] {2}, new int[] {3, 1}, new int[] {4, 2});
        product(1, new int[] {3, 1}, new int[] {3}, new int[] {4, 3});
        product(2, new int[] {3, 1}, new int[] {2, 1}, new int[] {4, 2, 1});
        product(2, new int[] {2, 1, 1}, new int[] {2, 1}, new int[] {3, 2, 1, 1});
    }

    private static void notWithin() {
        product(0, new int[] {3}, new int[] {1}, new int[] {2, 2});
        product(0, new int[] {3}, new int[] {2, 1}, new int[] {2, 2, 2});
        product(0, new int[] {1, 1}, new int[] {1}, new int[] {3});
        product(0, new int[] {1, 1, 1}, new int[] {2}, new int[] {3, 2});
        product(0, new int[] {1}, new int[] {5}, new int[] {3, 3});
        for (int i = 1; i < 8; i++) {
            int[] a = Arrays.copyOf(EIGHT_ONES, i + 1);
            int[] c = Arrays.copyOf(EIGHT_ONES, i);
            c[0] = 5;
            product(0, a, new int[] {3}, c);
            product(0, a, new int[] {2, 1}, c);
        }
    }

    /** What would be counted, were the numbers of boxes not asked for, is not 0. */
    private static void otherNumberOfBoxes() {
        product(0, NONE, NONE, new int[] {1});
        product(0, new int[] {1}, NONE, NONE);
        product(0, new int[] {1}, new int[] {1}, new int[] {1});
        product(0, new int[] {2, 1}, new int[] {2, 1}, new int[] {2, 1});
        product(0, new int[] {2, 1}, new int[] {2, 1}, new int[] {3, 2});
        product(0, new int[] {2, 1}, new int[] {2, 1}, new int[] {3, 2, 2});
        product(0, new int[] {2, 1}, new int[] {2, 1}, new int[] {4, 3});
        product(0, new int[] {1}, new int[] {5}, new int[] {5});
        product(0, new int[] {1}, new int[] {5}, new int[] {7});
        product(0, new int[] {24}, new int[] {1}, new int[] {24});
        product(0, new int[] {24}, new int[] {24}, new int[] {24});
        product(0, new int[] {12}, new int[] {13}, new int[] {24});
        product(0, new int[] {12}, new int[] {11}, new int[] {24});
    }

    private static void productsOfNone() {
        product(1, NONE, NONE, NONE);
        int[][] shapes = {{1}, {24}, {3, 3, 3, 3, 3, 3, 3, 3}, {9, 5, 3, 2, 2, 1, 1, 1}, {2, 1}};
        for (int[] lengths : shapes) {
            product(1, NONE, lengths, lengths);
            TableauBench x = Benches.used();
            Checks.setShape(x, 1, lengths);
            for (int none = 0; none < 4; none += 2) {
                Checks.same("by none, in the same slot", x.coefficient(1, none, 1), 1);
                Checks.same("none by it, in the same slot", x.coefficient(none, 1, 1), 1);
                Checks.same("in none", x.coefficient(1, none, none), 0);
                Checks.same("in none, the other way round", x.coefficient(none, 1, none), 0);
            }
            Checks.same("three times the same slot", x.coefficient(1, 1, 1), 0);
            Checks.same("three times the same slot without boxes", x.coefficient(0, 0, 0), 1);
        }
    }

    private static void productsAtLimits() {
        product(1, new int[] {12}, new int[] {12}, new int[] {24});
        product(1, new int[] {12}, new int[] {12}, new int[] {12, 12});
        product(1, new int[] {3, 3, 3, 3}, new int[] {3, 3, 3, 3}, new int[] {3, 3, 3, 3, 3, 3, 3, 3});
        product(1, new int[] {4, 4, 4}, new int[] {4, 4, 4}, new int[] {8, 8, 8});
        product(1, EIGHT_ONES, new int[] {2, 2, 2, 2, 2, 2, 2, 2}, new int[] {3, 3, 3, 3, 3, 3, 3, 3});
        product(1, new int[] {8, 8}, new int[] {8}, new int[] {8, 8, 8});
        product(24, new int[] {5, 3, 2, 1}, new int[] {4, 3, 2, 1}, new int[] {6, 5, 4, 3, 2, 1});
        // These were counted by another way: the product as a sum of products by rows.
        product(2, new int[] {4, 4, 2, 1, 1}, new int[] {8, 2, 2}, new int[] {11, 4, 3, 3, 1, 1, 1});
        product(3, new int[] {4, 4, 2, 2}, new int[] {3, 3, 3, 1}, new int[] {6, 5, 3, 3, 2, 2, 1});
        product(3, new int[] {4, 4, 1, 1}, new int[] {7, 5, 1}, new int[] {10, 7, 3, 1, 1, 1});
        product(4, new int[] {4, 4, 2}, new int[] {5, 3, 2, 2, 2}, new int[] {6, 5, 4, 4, 2, 2, 1});
        product(5, new int[] {9, 3, 1}, new int[] {6, 2, 2}, new int[] {13, 4, 3, 2, 1});
        product(6, new int[] {6, 3, 2, 1, 1, 1}, new int[] {3, 2, 2, 2}, new int[] {8, 4, 3, 3, 2, 1, 1, 1});
        product(7, new int[] {6, 3, 2, 1, 1, 1}, new int[] {3, 2, 2, 2}, new int[] {7, 4, 3, 3, 2, 2, 1, 1});
        product(8, new int[] {4, 2, 1, 1}, new int[] {9, 2, 2, 1, 1}, new int[] {11, 4, 3, 2, 1, 1, 1});
        product(9, new int[] {5, 3, 3, 2}, new int[] {5, 3, 1}, new int[] {8, 5, 4, 3, 2});
        product(11, new int[] {5, 3, 3, 2}, new int[] {5, 3, 1}, new int[] {7, 5, 4, 3, 2, 1});
        product(0, new int[] {4, 4, 2}, new int[] {5, 3, 2, 2, 2}, new int[] {12, 7, 3, 2});
        product(0, new int[] {23}, new int[] {1}, new int[] {22, 2});
        product(1, new int[] {23}, new int[] {1}, new int[] {23, 1});
    }

    private static void character(long due, int[] s, int[] t) {
        TableauBench x = Benches.used();
        Checks.setShape(x, 1, s);
        Checks.setShape(x, 2, t);
        Checks.same("character of " + text(s) + " at " + text(t), x.character(1, 2), due);
    }

    private static void characterOfNone() {
        TableauBench x = Benches.used();
        for (int s = 0; s < 4; s++) {
            for (int t = 0; t < 4; t++) {
                Checks.same("none at none", x.character(s, t), 1);
            }
        }
        character(1, new int[] {1}, new int[] {1});
    }

    /** At a type of ones, each box is a rim hook: the ways are the standard tableaux. */
    private static void allWays() {
        PlainBench plain = new PlainBench();
        for (int n = 1; n <= 8; n++) {
            for (List<Integer> shape : plain.shapesOf(n)) {
                TableauBench x = Benches.used();
                Checks.setShape(x, 0, array(shape));
                character(x.standard(0), array(shape), Arrays.copyOf(EIGHT_ONES, n));
            }
        }
        character(2, new int[] {2, 2}, new int[] {2, 2});
        character(-3, new int[] {3, 3}, new int[] {2, 2, 2});
        character(-2, new int[] {3, 2, 1}, new int[] {3, 3});
        character(0, new int[] {3, 2, 1}, new int[] {2, 2, 2});
    }

    private static void signs() {
        for (int n = 1; n <= 8; n++) {
            int sign = n % 2 == 0 ? -1 : 1;
            character(sign, Arrays.copyOf(EIGHT_ONES, n), new int[] {n});
            character(1, new int[] {n}, new int[] {n});
            for (int rows = 1; rows <= n; rows++) {
                int[] hook = Arrays.copyOf(EIGHT_ONES, rows);
                hook[0] = n + 1 - rows;
                character(rows % 2 == 0 ? -1 : 1, hook, new int[] {n});
            }
        }
        character(1, new int[] {1, 1, 1, 1}, new int[] {2, 2});
        character(-1, new int[] {1, 1, 1, 1}, new int[] {2, 1, 1});
        character(-1, new int[] {2, 2}, new int[] {3, 1});
    }

    private static void hangTogether() {
        character(0, new int[] {2, 1}, new int[] {2, 1});
        character(0, new int[] {3, 2, 1}, new int[] {2, 1, 1, 1, 1});
        character(0, new int[] {3, 1}, new int[] {3, 1});
        character(0, new int[] {2, 1, 1}, new int[] {3, 1});
        character(0, new int[] {4, 3, 2, 1}, new int[] {2, 2, 2, 2, 2});
        character(0, new int[] {4, 3, 2, 1}, new int[] {4, 4, 2});
    }

    private static void noSquares() {
        character(0, new int[] {2, 2}, new int[] {4});
        character(0, new int[] {3, 2}, new int[] {5});
        character(0, new int[] {2, 2, 1}, new int[] {5});
        character(0, new int[] {3, 3}, new int[] {6});
        character(0, new int[] {4, 4}, new int[] {6, 2});
        character(0, new int[] {7, 7}, new int[] {14});
        character(0, new int[] {2, 2, 2, 2, 2, 2, 2}, new int[] {14});
    }

    private static void restOfType() {
        character(1, new int[] {4}, new int[] {2, 1, 1});
        character(-1, new int[] {3, 1}, new int[] {2, 2});
        character(1, new int[] {3, 1}, new int[] {2, 1, 1});
        character(3, new int[] {3, 1}, new int[] {1, 1, 1, 1});
        character(-1, new int[] {3, 1}, new int[] {4});
        character(-1, new int[] {2, 1, 1}, new int[] {2, 1, 1});
        character(14, new int[] {4, 4}, EIGHT_ONES);
        character(4, new int[] {4, 4}, new int[] {2, 1, 1, 1, 1, 1, 1});
    }

    private static void otherBoxes() {
        for (int n = 0; n <= 24; n++) {
            for (int m = 0; m <= 24; m++) {
                TableauBench x = Benches.used();
                Checks.setShape(x, 0, n);
                Checks.setShape(x, 3, m);
                if (n != m) {
                    Checks.fails(n + " at " + m, STATE, () -> x.character(0, 3));
                }
            }
        }
        TableauBench x = Benches.used();
        Checks.setShape(x, 0, 3, 2, 1);
        Checks.setShape(x, 1, 3, 2);
        Checks.refuses("3 2 1 at 3 2", x, STATE, () -> x.character(0, 1));
        Checks.refuses("3 2 at 3 2 1", x, STATE, () -> x.character(1, 0));
        Checks.refuses("3 2 1 at none", x, STATE, () -> x.character(0, 2));
        Checks.refuses("none at 3 2 1", x, STATE, () -> x.character(2, 0));
    }

    private static void tooManyBoxes() {
        for (int n = 1; n <= 24; n++) {
            TableauBench x = Benches.used();
            Checks.setShape(x, 0, n);
            Checks.setShape(x, 1, n - n / 2, n / 2);
            if (n <= 14) {
                Checks.same(n + " at two rows", x.character(0, 1), 1);
                Checks.same(n + " at itself", x.character(0, 0), 1);
            } else {
                Checks.refuses(n + " at two rows", x, OPERATION, () -> x.character(0, 1));
                Checks.fails(n + " at itself", OPERATION, () -> x.character(0, 0));
                Checks.fails("two rows at " + n, OPERATION, () -> x.character(1, 0));
            }
        }
    }

    private static void charactersAtLimits() {
        int[] hook = {7, 1, 1, 1, 1, 1, 1, 1};
        character(-1, hook, new int[] {14});
        character(1, new int[] {14}, hook);
        character(2, new int[] {2, 2, 2, 2, 2, 2, 2}, new int[] {7, 7});
        character(-35, new int[] {7, 7}, new int[] {2, 2, 2, 2, 2, 2, 2});
        character(210, new int[] {6, 4, 2, 2}, new int[] {2, 2, 2, 2, 2, 2, 2});
        character(-210, new int[] {4, 4, 2, 2, 1, 1}, new int[] {2, 2, 2, 2, 2, 2, 2});
        character(1, new int[] {14}, new int[] {2, 2, 2, 2, 2, 2, 1, 1});
        character(-1, EIGHT_ONES, new int[] {8});
        character(1, EIGHT_ONES, EIGHT_ONES);
        character(-1, EIGHT_ONES, new int[] {2, 1, 1, 1, 1, 1, 1});
    }
}
