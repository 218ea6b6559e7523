import java.math.BigInteger;
import java.util.ArrayList;
import java.util.Arrays;
import java.util.List;

/** The boundary cases that the document names for sliding, turning and drawing: "Terms" on these, and promises 16 to 18. */
public final class EdgesOfSlidingTest {
    private static final Class<IllegalArgumentException> ARGUMENT = IllegalArgumentException.class;
    private static final Class<IllegalStateException> STATE = IllegalStateException.class;
    private static final Class<UnsupportedOperationException> OPERATION = UnsupportedOperationException.class;
    private static final int INNER = 0;
    private static final int OUTER = 3;
    private static final int[] NONE = {};
    private static final BigInteger FACTOR = new BigInteger("6364136223846793005");
    private static final BigInteger SUMMAND = new BigInteger("1442695040888963407");
    private static final BigInteger WRAP = BigInteger.ONE.shiftLeft(64);

    private EdgesOfSlidingTest() {
    }

    public static void main(String[] args) {
        slidingSentences();
        turningSentences();
        drawingSentences();
        Checks.finish();
    }

    private static void slidingSentences() {
        Checks.sentence("in each row no letter is less than one before it", EdgesOfSlidingTest::rowsOfFillings);
        Checks.sentence("in each column each letter is greater than those above it", EdgesOfSlidingTest::columnsOfFillings);
        Checks.sentence("of those boxes of an outer shape that an inner one has not", EdgesOfSlidingTest::boxesOfInner);
        Checks.sentence("as long as the box to the right of it or that below it is one of the filling",
            EdgesOfSlidingTest::noneBeside);
        Checks.sentence("the lesser letter of the two moves into the hole", EdgesOfSlidingTest::lesserMoves);
        Checks.sentence("the one below, if they are the same", EdgesOfSlidingTest::sameMovesUp);
        Checks.sentence("or the other is not there", EdgesOfSlidingTest::onlyOneBeside);
        Checks.sentence("Then the last hole is no box of the outer shape any more", EdgesOfSlidingTest::lastHole);
        Checks.sentence("TO RECTIFY is to slide until the inner shape has no boxes", EdgesOfSlidingTest::untilNoBoxes);
        Checks.sentence("by order 0, by order 1, by order 2", EdgesOfSlidingTest::allOrders);
        Checks.sentence("16: P is what comes of it, Q is away", EdgesOfSlidingTest::qAwayAfterRectify);
        Checks.sentence("16: how many slides", EdgesOfSlidingTest::numbersOfSlides);
        Checks.sentence("16: IllegalArgumentException when order is not 0 .. 2", EdgesOfSlidingTest::noOrder);
        Checks.sentence("16: or outer has not all boxes of inner", EdgesOfSlidingTest::notWithin);
        Checks.sentence("16: IllegalStateException when the word has not as many letters as the filling boxes",
            EdgesOfSlidingTest::otherNumberOfLetters);
        Checks.sentence("16: UnsupportedOperationException when it is not column-strict", EdgesOfSlidingTest::allSmallFillings);
    }

    private static void turningSentences() {
        Checks.sentence("it is STANDARD, if it has the letters 1 to its number of boxes, each once",
            EdgesOfSlidingTest::standardOnes);
        Checks.sentence("TO TURN a standard tableau of n boxes", EdgesOfSlidingTest::turnedOnes);
        Checks.sentence("17: one without boxes is standard", EdgesOfSlidingTest::turnsNone);
        Checks.sentence("17: Q is away then", EdgesOfSlidingTest::qAwayAfterTurn);
        Checks.sentence("17: IllegalStateException when P is not standard", EdgesOfSlidingTest::notStandard);
    }

    private static void drawingSentences() {
        Checks.sentence("the seed becomes seed * 6364136223846793005 + 1442695040888963407 (wrapping)",
            EdgesOfSlidingTest::seedsWrap);
        Checks.sentence("the number is seed >>> 33", EdgesOfSlidingTest::numbersOfSeeds);
        Checks.sentence("the first one, modulo k, says which of the k boxes is taken, row by row from (0, 0) on",
            EdgesOfSlidingTest::firstBoxes);
        Checks.sentence("first those to the right, from the nearest on, then those below, likewise",
            EdgesOfSlidingTest::nextBoxes);
        Checks.sentence("18: P is that, Q is away", EdgesOfSlidingTest::qAwayAfterDraw);
        Checks.sentence("18: The seed as it is then", EdgesOfSlidingTest::seedsThen);
        Checks.sentence("18: of the slot's shape (without boxes)", EdgesOfSlidingTest::drawsNone);
        Checks.sentence("18: of the slot's shape (24 boxes, 8 rows)", EdgesOfSlidingTest::drawsLargest);
    }

    private static TableauBench skew(int[] inner, int[] outer, int... reading) {
        TableauBench x = Benches.used();
        Checks.setShape(x, INNER, inner);
        Checks.setShape(x, OUTER, outer);
        Checks.setWord(x, 1, reading);
        return x;
    }

    private static String text(TableauBench x) {
        return Checks.word(x, 1) + " in " + Checks.shape(x, OUTER) + " less " + Checks.shape(x, INNER);
    }

    private static void rectified(String due, int[] inner, int[] outer, int... reading) {
        for (int order = 0; order <= 2; order++) {
            TableauBench x = skew(inner, outer, reading);
            int slides = 0;
            for (int length : inner) {
                slides += length;
            }
            Checks.same("slides of " + text(x), x.rectify(INNER, OUTER, 1, order), slides);
            Checks.same("P of " + text(x) + " by order " + order, Checks.p(x), due);
        }
    }

    private static void notStrict(int[] inner, int[] outer, int... reading) {
        for (int order = 0; order <= 2; order++) {
            TableauBench x = skew(inner, outer, reading);
            int by = order;
            Checks.fails(text(x), OPERATION, () -> x.rectify(INNER, OUTER, 1, by));
            Checks.same("P then", Checks.p(x), "");
        }
    }

    /** Letters 1, 2 / 3, 4 / .. / 15, 16 in eight rows of two; its reading. */
    private static int[] eightRows() {
        int[] reading = new int[16];
        for (int r = 0; r < 8; r++) {
            reading[place(r, 0)] = 2 * r + 1;
            reading[place(r, 1)] = 2 * r + 2;
        }
        return reading;
    }

    private static int place(int r, int c) {
        return 2 * (7 - r) + c;
    }

    private static int[] sixteen() {
        int[] reading = new int[16];
        for (int i = 0; i < 16; i++) {
            reading[i] = i + 1;
        }
        return reading;
    }

    private static void rowsOfFillings() {
        int[] rows = {2, 2, 2, 2, 2, 2, 2, 2};
        for (int r = 0; r < 8; r++) {
            int[] same = eightRows();
            same[place(r, 1)] = same[place(r, 0)];
            TableauBench x = skew(NONE, rows, same);
            Checks.same("the same letters in row " + r, x.rectify(INNER, OUTER, 1, 0), 0);
            int[] less = eightRows();
            less[place(r, 0)] = 2 * r + 2;
            less[place(r, 1)] = 2 * r + 1;
            notStrict(NONE, rows, less);
        }
        for (int c = 1; c < 16; c++) {
            int[] less = sixteen();
            less[c] = c;
            less[c - 1] = c + 1;
            notStrict(NONE, new int[] {16}, less);
            notStrict(new int[] {8}, new int[] {24}, less);
            int[] same = sixteen();
            same[c] = c;
            TableauBench x = skew(new int[] {8}, new int[] {24}, same);
            Checks.same("the same letters at " + c, x.rectify(INNER, OUTER, 1, 0), 8);
            Checks.same("the second of them", x.entry(false, 0, c), c);
        }
    }

    private static void columnsOfFillings() {
        int[] rows = {2, 2, 2, 2, 2, 2, 2, 2};
        TableauBench x = skew(NONE, rows, eightRows());
        Checks.same("a right filling", x.rectify(INNER, OUTER, 1, 0), 0);
        Checks.same("P", Checks.p(x), "1 2 / 3 4 / 5 6 / 7 8 / 9 10 / 11 12 / 13 14 / 15 16");
        for (int r = 1; r < 8; r++) {
            int[] sameLeft = eightRows();
            sameLeft[place(r, 0)] = sameLeft[place(r - 1, 0)];
            notStrict(NONE, rows, sameLeft);
            int[] sameRight = eightRows();
            sameRight[place(r - 1, 1)] = sameRight[place(r, 1)];
            notStrict(NONE, rows, sameRight);
            int[] less = eightRows();
            less[place(r, 0)] = 1;
            notStrict(NONE, rows, less);
        }
        notStrict(new int[] {7}, new int[] {8, 8}, 1, 1, 1, 1, 1, 1, 1, 1, 1);
        rectified("1 1 1 1 1 1 1 1 / 2", new int[] {7}, new int[] {8, 8}, 1, 1, 1, 1, 1, 1, 1, 2, 1);
    }

    /** Boxes of the inner shape have no letters: those that touch at corners alone may have any. */
    private static void boxesOfInner() {
        for (int code = 0; code < 27; code++) {
            TableauBench x = skew(new int[] {2, 1}, new int[] {3, 2, 1}, 1 + code % 3, 1 + code / 3 % 3, 1 + code / 9);
            Checks.same(text(x), x.rectify(INNER, OUTER, 1, code % 3), 3);
            String p = Checks.p(x);
            x.insert(1, false);
            Checks.same("P as by insertion", p, Checks.p(x));
        }
        rectified("1 1 / 2", new int[] {1}, new int[] {2, 2}, 1, 2, 1);
        notStrict(new int[] {1}, new int[] {2, 2}, 1, 1, 1);
        rectified("1 2 2", new int[] {1}, new int[] {3, 1}, 1, 2, 2);
        rectified("1 1 1 / 2 2", new int[] {2}, new int[] {4, 3}, 1, 2, 2, 1, 1);
    }

    private static void noneBeside() {
        rectified("", new int[] {1}, new int[] {1});
        rectified("", new int[] {3, 2}, new int[] {3, 2});
        rectified("5", new int[] {2}, new int[] {2, 1}, 5);
        rectified("5", new int[] {1, 1}, new int[] {2, 1}, 5);
        rectified("4 / 5", new int[] {3, 3}, new int[] {4, 3, 1}, 5, 4);
    }

    private static void lesserMoves() {
        rectified("1 2", new int[] {1}, new int[] {2, 1}, 1, 2);
        rectified("1 / 2", new int[] {1}, new int[] {2, 1}, 2, 1);
        rectified("15 / 16", new int[] {1}, new int[] {2, 1}, 16, 15);
        rectified("1 2 / 3", new int[] {1}, new int[] {2, 2}, 1, 3, 2);
        rectified("1 3 / 2", new int[] {1}, new int[] {2, 2}, 2, 3, 1);
        rectified("1 2 / 2", new int[] {1}, new int[] {2, 2}, 2, 2, 1);
        rectified("1 2 4 5 / 2 3", new int[] {2, 1}, new int[] {4, 3, 2}, 2, 3, 1, 4, 2, 5);
    }

    private static void sameMovesUp() {
        rectified("7 7", new int[] {1}, new int[] {2, 1}, 7, 7);
        rectified("16 16", new int[] {1}, new int[] {2, 1}, 16, 16);
        rectified("1 1 / 2", new int[] {1}, new int[] {2, 2}, 1, 2, 1);
        rectified("1 2 2 / 2 3", new int[] {1}, new int[] {3, 3}, 2, 2, 3, 1, 2);
        rectified("1 2 / 3 3 / 4", new int[] {1}, new int[] {2, 2, 2}, 3, 4, 1, 3, 2);
        rectified("9 9 9 9 9 9", new int[] {5, 4, 3, 2, 1}, new int[] {6, 5, 4, 3, 2, 1}, 9, 9, 9, 9, 9, 9);
    }

    private static void onlyOneBeside() {
        rectified("3", new int[] {1}, new int[] {1, 1}, 3);
        rectified("3", new int[] {1}, new int[] {2}, 3);
        rectified("1 2 3", new int[] {1}, new int[] {4}, 1, 2, 3);
        rectified("1 / 2 / 3", new int[] {1}, new int[] {1, 1, 1, 1}, 3, 2, 1);
        rectified("1 / 2 / 3 / 4 / 5 / 6 / 7", new int[] {1}, new int[] {1, 1, 1, 1, 1, 1, 1, 1}, 7, 6, 5, 4, 3, 2, 1);
        rectified("1 2 3 4 5 6 7 8 9 10 11 12 13 14 15 16", new int[] {8}, new int[] {24}, sixteen());
    }

    private static void lastHole() {
        for (int order = 0; order <= 2; order++) {
            TableauBench x = skew(new int[] {1}, new int[] {2, 2, 2}, 3, 4, 1, 3, 2);
            x.rectify(INNER, OUTER, 1, order);
            Checks.same("the box of the last hole", x.entry(false, 2, 1), 0);
            Checks.same("the box before it", x.entry(false, 2, 0), 4);
            TableauBench y = skew(new int[] {2, 2}, new int[] {3, 3, 3}, 1, 1, 2, 2, 1);
            Checks.fails("a filling that is not right", OPERATION, () -> y.rectify(INNER, OUTER, 1, 0));
            Checks.setWord(y, 1, 1, 1, 3, 2, 1);
            y.rectify(INNER, OUTER, 1, order);
            Checks.same("P", Checks.p(y), "1 1 1 / 2 / 3");
            for (int r = 0; r < 3; r++) {
                Checks.same("no box (" + r + ", 3)", y.entry(false, r, 3), 0);
                Checks.same("box (" + r + ", 2)", y.entry(false, r, 2), r == 0 ? 1 : 0);
            }
            Checks.same("the slots stay", Checks.shape(y, INNER) + " in " + Checks.shape(y, OUTER), "2 2 in 3 3 3");
        }
    }

    private static void untilNoBoxes() {
        rectified("", new int[] {24}, new int[] {24});
        rectified("", new int[] {3, 3, 3, 3, 3, 3, 3, 3}, new int[] {3, 3, 3, 3, 3, 3, 3, 3});
        rectified("", new int[] {9, 5, 3, 2, 2, 1, 1, 1}, new int[] {9, 5, 3, 2, 2, 1, 1, 1});
        rectified("16", new int[] {23}, new int[] {24}, 16);
        rectified("1", new int[] {3, 3, 3, 3, 3, 3, 3, 2}, new int[] {3, 3, 3, 3, 3, 3, 3, 3}, 1);
        rectified("1 1 / 2 2 / 3", new int[] {6, 4, 3, 2, 1}, new int[] {7, 5, 4, 3, 2}, 3, 2, 2, 1, 1);
        TableauBench x = skew(NONE, NONE);
        Checks.same("the inner shape has none at first", x.rectify(INNER, OUTER, 1, 0), 0);
        Checks.same("P", Checks.p(x), "");
    }

    private static void allOrders() {
        int[][] inners = {{3, 2, 1}, {4, 1}, {2, 2}, {1, 1, 1}, {5}};
        for (int[] inner : inners) {
            String[] due = new String[3];
            for (int order = 0; order <= 2; order++) {
                TableauBench x = skew(inner, new int[] {6, 5, 3, 2, 1}, lettersFor(inner));
                x.rectify(INNER, OUTER, 1, order);
                due[order] = Checks.p(x);
                x.insert(1, false);
                Checks.same("P as by insertion", due[order], Checks.p(x));
            }
            Checks.same("orders 0 and 1", due[0], due[1]);
            Checks.same("orders 0 and 2", due[0], due[2]);
        }
    }

    /** The reading of the filling of 6 5 3 2 1 less inner with r + c / 2 + 1 at (r, c). */
    private static int[] lettersFor(int[] inner) {
        int[] outer = {6, 5, 3, 2, 1};
        List<Integer> letters = new ArrayList<>();
        for (int r = 4; r >= 0; r--) {
            for (int c = r < inner.length ? inner[r] : 0; c < outer[r]; c++) {
                letters.add(r + c / 2 + 1);
            }
        }
        return letters.stream().mapToInt(Integer::intValue).toArray();
    }

    private static void qAwayAfterRectify() {
        for (int order = 0; order <= 2; order++) {
            TableauBench x = skew(new int[] {1}, new int[] {2, 1}, 7, 7);
            x.insert(1, false);
            x.rectify(INNER, OUTER, 1, order);
            Checks.same("Q", Checks.q(x), "");
            Checks.fails("recover", STATE, () -> x.recover(0));
            TableauBench y = skew(NONE, NONE);
            y.insert(1, false);
            y.rectify(INNER, OUTER, 1, order);
            Checks.fails("recover after no slides", STATE, () -> y.recover(0));
        }
    }

    private static void numbersOfSlides() {
        rectified("1 2 3", new int[] {21}, new int[] {24}, 1, 2, 3);
        rectified("1 1 / 2 3", NONE, new int[] {2, 2}, 2, 3, 1, 1);
        for (int n = 0; n <= 24; n++) {
            for (int order = 0; order <= 2; order++) {
                TableauBench x = skew(n == 0 ? NONE : new int[] {n}, n == 0 ? NONE : new int[] {n});
                Checks.same(n + " slides", x.rectify(INNER, OUTER, 1, order), n);
            }
        }
    }

    private static void noOrder() {
        int[] none = {-1, 3, 4, -2, -3, 256, 257, Integer.MIN_VALUE, Integer.MAX_VALUE};
        for (int order : none) {
            TableauBench x = skew(new int[] {1}, new int[] {2, 1}, 7, 7);
            x.insert(1, false);
            Checks.refuses("order " + order, x, ARGUMENT, () -> x.rectify(INNER, OUTER, 1, order));
            TableauBench y = skew(NONE, NONE);
            Checks.refuses("order " + order + ", nothing to do", y, ARGUMENT, () -> y.rectify(INNER, OUTER, 1, order));
        }
        for (int order = 0; order <= 2; order++) {
            TableauBench x = skew(new int[] {1}, new int[] {2, 1}, 7, 7);
            Checks.same("order " + order, x.rectify(INNER, OUTER, 1, order), 1);
        }
    }

    private static int[] ones(int first, int rows) {
        int[] lengths = new int[rows];
        for (int i = 0; i < rows; i++) {
            lengths[i] = i == 0 ? first : 1;
        }
        return lengths;
    }

    /** Inner has one box that outer has not, and the word as many letters as outer has boxes more. */
    private static void notWithin() {
        for (int i = 1; i < 8; i++) {
            for (int o = 0; o <= 2; o++) {
                int order = o;
                TableauBench x = skew(ones(1, i + 1), ones(5, i), 1, 2, 3);
                x.insert(1, true);
                Checks.refuses(text(x), x, ARGUMENT, () -> x.rectify(INNER, OUTER, 1, order));
            }
        }
        for (int n = 1; n <= 12; n++) {
            TableauBench x = skew(new int[] {n + 1}, new int[] {n, n});
            for (int i = 1; i < n; i++) {
                x.letter(1, i);
            }
            Checks.refuses(text(x), x, ARGUMENT, () -> x.rectify(INNER, OUTER, 1, 0));
        }
        TableauBench x = skew(new int[] {1}, NONE);
        Checks.refuses("one box within none", x, ARGUMENT, () -> x.rectify(INNER, OUTER, 1, 0));
        TableauBench y = skew(new int[] {24}, new int[] {3, 3, 3, 3, 3, 3, 3, 3});
        Checks.refuses("24 within eight rows of 3", y, ARGUMENT, () -> y.rectify(INNER, OUTER, 1, 0));
        TableauBench z = skew(new int[] {2, 1}, new int[] {2, 1});
        Checks.same("a shape within itself", z.rectify(INNER, INNER, 1, 0), 3);
    }

    private static void otherNumberOfLetters() {
        int[][] inners = {{}, {1}, {3, 2}, {5, 4, 1}, {5, 5, 5}, {8, 8, 8}, {}};
        int[][] outers = {{}, {3, 2}, {3, 2}, {5, 4, 3}, {6, 6, 6, 6}, {8, 8, 8}, {16}};
        int[] boxes = {0, 4, 0, 2, 9, 0, 16};
        for (int i = 0; i < inners.length; i++) {
            for (int n = 0; n <= 16; n++) {
                TableauBench x = skew(inners[i], outers[i], sixteen());
                x.cut(1, n);
                if (n != boxes[i]) {
                    Checks.refuses(text(x), x, STATE, () -> x.rectify(INNER, OUTER, 1, 0));
                }
            }
        }
        for (int n = 17; n <= 24; n++) {
            TableauBench x = skew(NONE, new int[] {n}, sixteen());
            Checks.refuses(text(x), x, STATE, () -> x.rectify(INNER, OUTER, 1, 2));
            Checks.setShape(x, INNER, n - 16);
            Checks.same(text(x), x.rectify(INNER, OUTER, 1, 2), n - 16);
        }
    }

    /** All fillings with few letters of all small skew shapes: refused, if not column-strict, else as by insertion. */
    private static void allSmallFillings() {
        PlainBench plain = new PlainBench();
        for (int n = 1; n <= 5; n++) {
            for (List<Integer> outer : plain.shapesOf(n)) {
                for (int m = 0; m < n; m++) {
                    for (List<Integer> inner : plain.shapesOf(m)) {
                        if (isWithin(inner, outer)) {
                            smallFillings(inner, outer, n - m);
                        }
                    }
                }
            }
        }
    }

    private static boolean isWithin(List<Integer> inner, List<Integer> outer) {
        for (int r = 0; r < inner.size(); r++) {
            if (r >= outer.size() || inner.get(r) > outer.get(r)) {
                return false;
            }
        }
        return true;
    }

    private static void smallFillings(List<Integer> inner, List<Integer> outer, int boxes) {
        int letters = boxes == 5 ? 3 : 4;
        int codes = (int) Math.pow(letters, boxes);
        for (int code = 0; code < codes; code++) {
            int[] reading = new int[boxes];
            int left = code;
            for (int i = 0; i < boxes; i++) {
                reading[i] = 1 + left % letters;
                left /= letters;
            }
            TableauBench x = skew(inner.stream().mapToInt(Integer::intValue).toArray(),
                outer.stream().mapToInt(Integer::intValue).toArray(), reading);
            smallFilling(x, isStrict(inner, outer, reading), code % 3);
        }
    }

    private static void smallFilling(TableauBench x, boolean strict, int order) {
        if (!strict) {
            Checks.fails(text(x), OPERATION, () -> x.rectify(INNER, OUTER, 1, order));
            return;
        }
        x.rectify(INNER, OUTER, 1, order);
        String p = Checks.p(x);
        x.insert(1, false);
        Checks.same("P of " + text(x), p, Checks.p(x));
    }

    private static boolean isStrict(List<Integer> inner, List<Integer> outer, int[] reading) {
        int[][] letters = new int[outer.size()][8];
        int place = 0;
        for (int r = outer.size() - 1; r >= 0; r--) {
            for (int c = r < inner.size() ? inner.get(r) : 0; c < outer.get(r); c++) {
                letters[r][c] = reading[place];
                place++;
            }
        }
        for (int r = 0; r < letters.length; r++) {
            for (int c = 0; c < 8; c++) {
                boolean less = c > 0 && letters[r][c] != 0 && letters[r][c] < letters[r][c - 1];
                boolean notGreater = r > 0 && letters[r][c] != 0 && letters[r][c] <= letters[r - 1][c];
                if (less || notGreater) {
                    return false;
                }
            }
        }
        return true;
    }

    /** All words of at most four letters 1 .. 5, both ways: the permutations are turned, no other one. */
    private static void standardOnes() {
        int codes = 1;
        for (int n = 0; n <= 4; n++) {
            for (int code = 0; code < codes; code++) {
                TableauBench x = Benches.used();
                int seen = 0;
                int left = code;
                for (int i = 0; i < n; i++) {
                    x.letter(0, 1 + left % 5);
                    seen |= 1 << (left % 5);
                    left /= 5;
                }
                x.insert(0, code % 2 == 0);
                if (seen == (1 << n) - 1) {
                    x.turn();
                    Checks.fails("recover after a turn of " + Checks.word(x, 0), STATE, () -> x.recover(1));
                } else {
                    Checks.refuses("turn of " + Checks.word(x, 0), x, STATE, x::turn);
                }
            }
            codes *= 5;
        }
    }

    private static void turned(String before, String after, int... word) {
        TableauBench x = Benches.used();
        Checks.setWord(x, 1, word);
        x.insert(1, false);
        Checks.same("P", Checks.p(x), before);
        x.turn();
        Checks.same("P turned", Checks.p(x), after);
        x.turn();
        Checks.same("P turned back", Checks.p(x), before);
    }

    private static void turnedOnes() {
        turned("1", "1", 1);
        turned("1 2", "1 2", 1, 2);
        turned("1 / 2", "1 / 2", 2, 1);
        turned("1 2 / 3", "1 3 / 2", 3, 1, 2);
        turned("1 3 / 2", "1 2 / 3", 2, 1, 3);
        turned("1 2 5 / 3 4", "1 2 3 / 4 5", 3, 1, 4, 2, 5);
        String row = "1 2 3 4 5 6 7 8 9 10 11 12 13 14 15 16";
        turned(row, row, sixteen());
        String column = row.replace(" ", " / ");
        turned(column, column, 16, 15, 14, 13, 12, 11, 10, 9, 8, 7, 6, 5, 4, 3, 2, 1);
        turnedRectangles();
    }

    /** In a shape of equal rows, to turn is to turn the page around and count from the other end. */
    private static void turnedRectangles() {
        int[][] sides = {{8, 3}, {3, 8}, {1, 24}, {2, 12}, {4, 6}, {6, 4}, {5, 4}};
        for (int[] side : sides) {
            for (int seed = 0; seed < 10; seed++) {
                TableauBench x = Benches.used();
                int[] lengths = new int[side[0]];
                Arrays.fill(lengths, side[1]);
                Checks.setShape(x, 2, lengths);
                x.draw(2, seed);
                int[][] before = letters(x, side);
                x.turn();
                int[][] after = letters(x, side);
                for (int r = 0; r < side[0]; r++) {
                    for (int c = 0; c < side[1]; c++) {
                        int due = side[0] * side[1] + 1 - before[side[0] - 1 - r][side[1] - 1 - c];
                        Checks.same("turned at " + r + ", " + c, after[r][c], due);
                    }
                }
            }
        }
    }

    private static int[][] letters(TableauBench x, int[] side) {
        int[][] letters = new int[side[0]][side[1]];
        for (int r = 0; r < side[0]; r++) {
            for (int c = 0; c < side[1]; c++) {
                letters[r][c] = x.entry(false, r, c);
            }
        }
        return letters;
    }

    private static void turnsNone() {
        TableauBench x = Benches.used();
        x.turn();
        Checks.same("at first", Checks.p(x), "");
        x.insert(0, false);
        x.turn();
        Checks.same("after an insertion", Checks.p(x), "");
        x.draw(0, 9);
        x.turn();
        Checks.same("after a drawing", Checks.p(x), "");
        Checks.setShape(x, 1, 2, 1);
        x.rectify(1, 1, 0, 0);
        x.turn();
        Checks.same("after sliding", Checks.p(x), "");
        x.letter(0, 2);
        x.insert(0, false);
        Checks.fails("one box that is not standard", STATE, x::turn);
    }

    private static void qAwayAfterTurn() {
        int[][] words = {{}, {1}, {2, 1}, {1, 2}, {2, 1, 3}};
        for (int[] word : words) {
            TableauBench x = Benches.used();
            Checks.setWord(x, 0, word);
            x.insert(0, false);
            x.turn();
            Checks.same("Q", Checks.q(x), "");
            Checks.fails("recover", STATE, () -> x.recover(0));
            Checks.same("the word", x.length(0), word.length);
        }
    }

    private static void notStandard() {
        int[][] words = {{2}, {16}, {1, 1}, {1, 3}, {2, 3}, {2, 2}, {1, 2, 2}, {1, 1, 2}, {1, 2, 4}, {2, 3, 4}, {3, 3, 3},
            {1, 2, 3, 4, 5, 6, 7, 8, 9, 10, 11, 12, 13, 14, 15, 15}, {1, 1, 3, 4, 5, 6, 7, 8, 9, 10, 11, 12, 13, 14, 15, 16},
            {2, 3, 4, 5, 6, 7, 8, 9, 10, 11, 12, 13, 14, 15, 16}, {16, 14, 13, 12, 11, 10, 9, 8, 7, 6, 5, 4, 3, 2, 1}};
        for (int[] word : words) {
            for (int columns = 0; columns < 2; columns++) {
                TableauBench x = Benches.used();
                Checks.setWord(x, 0, word);
                x.insert(0, columns == 1);
                Checks.refuses("turn of " + Checks.p(x), x, STATE, x::turn);
                x.recover(1);
                Checks.same("Q is not away", x.length(1), word.length);
            }
        }
        TableauBench x = skew(new int[] {1}, new int[] {2, 1}, 7, 7);
        x.rectify(INNER, OUTER, 1, 0);
        Checks.refuses("turn of 7 7", x, STATE, x::turn);
    }

    /** A drawing as the document tells it, with whole numbers of any size. */
    private static final class Drawing {
        private final List<int[]> boxes = new ArrayList<>();
        private final int[][] letters = new int[8][24];
        private BigInteger seed;
        private int started = 0;

        Drawing(int[] lengths, long firstSeed) {
            seed = BigInteger.valueOf(firstSeed).mod(WRAP);
            for (int r = 0; r < lengths.length; r++) {
                for (int c = 0; c < lengths[r]; c++) {
                    boxes.add(new int[] {r, c});
                }
            }
            started = boxes.isEmpty() ? 0 : new Drawing(firstSeed).number(boxes.size());
            while (!boxes.isEmpty()) {
                drawOne();
            }
        }

        private Drawing(long firstSeed) {
            seed = BigInteger.valueOf(firstSeed).mod(WRAP);
        }

        private int number(int bound) {
            seed = seed.multiply(FACTOR).add(SUMMAND).mod(WRAP);
            return seed.shiftRight(33).mod(BigInteger.valueOf(bound)).intValueExact();
        }

        private void drawOne() {
            int k = boxes.size();
            int[] box = boxes.get(number(k));
            List<int[]> others = others(box);
            while (!others.isEmpty()) {
                box = others.get(number(others.size()));
                others = others(box);
            }
            letters[box[0]][box[1]] = k;
            boxes.remove(box);
        }

        /** The list has the boxes row by row, and so those to the right before those below. */
        private List<int[]> others(int[] box) {
            List<int[]> others = new ArrayList<>();
            for (int[] b : boxes) {
                if (b[0] == box[0] && b[1] > box[1] || b[1] == box[1] && b[0] > box[0]) {
                    others.add(b);
                }
            }
            return others;
        }

        long lastSeed() {
            return seed.longValue();
        }
    }

    /** Draws and compares all: the box that was taken first. */
    private static int drawnAsTold(long seed, int... lengths) {
        TableauBench x = Benches.used();
        Checks.setShape(x, 1, lengths);
        Drawing due = new Drawing(lengths, seed);
        String what = " of " + Checks.shape(x, 1) + " with " + seed;
        Checks.same("the seed" + what, x.draw(1, seed), due.lastSeed());
        for (int r = 0; r < lengths.length; r++) {
            for (int c = 0; c < lengths[r]; c++) {
                Checks.same("P" + what + " at " + r + ", " + c, x.entry(false, r, c), due.letters[r][c]);
            }
            Checks.same("P" + what + " behind row " + r, x.entry(false, r, lengths[r]), 0);
        }
        return due.started;
    }

    private static void seedsWrap() {
        TableauBench x = Benches.used();
        Checks.setShape(x, 0, 1);
        Checks.same("after 0", x.draw(0, 0), 1442695040888963407L);
        Checks.same("after 1", x.draw(0, 1), 7806831264735756412L);
        Checks.same("after 2", x.draw(0, 2), -4275776585127002199L);
        Checks.same("after -1", x.draw(0, -1), -4921441182957829598L);
        Checks.same("after the greatest", x.draw(0, Long.MAX_VALUE), 4301930853896946210L);
        Checks.same("after the least", x.draw(0, Long.MIN_VALUE), -7780676995965812401L);
        long[] seeds = {0, 1, 2, -1, -2, Long.MAX_VALUE, Long.MIN_VALUE, Long.MAX_VALUE - 1, Long.MIN_VALUE + 1, 1L << 32, 1L << 33,
            1L << 62, -1L << 33, 123456789012345L};
        for (long seed : seeds) {
            drawnAsTold(seed, 1);
            drawnAsTold(seed, 2, 1);
            drawnAsTold(seed, 6, 5, 4, 3, 2, 1);
        }
    }

    private static void numbersOfSeeds() {
        for (int i = 0; i < 64; i++) {
            drawnAsTold(1L << i, 3, 2, 1);
            drawnAsTold(-1L << i, 3, 2, 1);
            drawnAsTold(0x5555555555555555L * i, 7, 7, 7);
        }
    }

    private static void firstBoxes() {
        int[][] shapes = {{4}, {1, 1, 1, 1}, {2, 2}, {3, 2, 1}, {2, 2, 2, 2, 2, 2, 2, 2}, {24}, {17, 1, 1, 1, 1, 1, 1, 1}};
        for (int[] lengths : shapes) {
            long boxes = 0;
            long taken = 0;
            for (int length : lengths) {
                boxes += length;
            }
            for (long seed = 0; seed < 250; seed++) {
                taken |= 1L << drawnAsTold(seed * 0x9E3779B97F4A7C15L, lengths);
            }
            Checks.same("each of the boxes was taken", taken, (1L << boxes) - 1);
        }
    }

    private static void nextBoxes() {
        int[][] shapes = {{3}, {1, 1, 1}, {3, 1, 1}, {2, 1, 1}, {3, 3, 3}, {5, 1}, {2, 1, 1, 1, 1, 1, 1, 1}, {8, 8, 8}};
        for (int[] lengths : shapes) {
            for (long seed = 1; seed <= 100; seed++) {
                drawnAsTold(seed, lengths);
            }
        }
    }

    private static void qAwayAfterDraw() {
        int[][] shapes = {{}, {1}, {2, 1}};
        for (int[] lengths : shapes) {
            TableauBench x = Benches.used();
            Checks.setShape(x, 3, lengths);
            Checks.setWord(x, 0, 2, 1, 3);
            x.insert(0, false);
            x.draw(3, 77);
            Checks.same("Q", Checks.q(x), "");
            Checks.fails("recover", STATE, () -> x.recover(0));
            Checks.same("the boxes of P", x.entry(false, 0, 0), Math.min(lengths.length, 1));
            Checks.same("the word", Checks.word(x, 0), "2 1 3");
        }
    }

    private static void seedsThen() {
        TableauBench x = Benches.used();
        Checks.setShape(x, 1, 2, 2);
        long seed = 5;
        for (int i = 0; i < 100; i++) {
            long then = new Drawing(new int[] {2, 2}, seed).lastSeed();
            Checks.same("the seed after " + seed, x.draw(1, seed), then);
            seed = then;
        }
        Checks.same("the slot stays", Checks.shape(x, 1), "2 2");
    }

    private static void drawsNone() {
        long[] seeds = {0, 1, -1, 42, Long.MIN_VALUE, Long.MAX_VALUE};
        for (long seed : seeds) {
            TableauBench x = Benches.used();
            Checks.same("no number is drawn", x.draw(0, seed), seed);
            Checks.same("P", Checks.p(x), "");
            Checks.setShape(x, 1, 2, 1);
            x.draw(1, seed);
            Checks.same("no number is drawn", x.draw(0, seed), seed);
            Checks.same("P after another one", Checks.p(x), "");
            Checks.setWord(x, 0, 2, 1);
            x.insert(0, false);
            Checks.same("no number is drawn", x.draw(3, seed), seed);
            Checks.same("P after an insertion", Checks.p(x), "");
        }
    }

    private static void drawsLargest() {
        for (List<Integer> shape : new PlainBench().shapesOf(24)) {
            if (shape.size() <= 8) {
                drawnAsTold(shape.hashCode() * 0x9E3779B97F4A7C15L, shape.stream().mapToInt(Integer::intValue).toArray());
            }
        }
    }
}
