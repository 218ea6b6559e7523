import java.util.StringJoiner;

/** The boundary cases that the document names for words: "Terms" on letters, and promises 7 to 10. */
public final class EdgesOfWordsTest {
    private static final int[] NO_LETTERS = {0, 17, 18, -1, -16, 32, 128, 255, 256, 256 + 5, 1 << 16, Integer.MIN_VALUE,
        Integer.MIN_VALUE + 1, Integer.MAX_VALUE};

    private EdgesOfWordsTest() {
    }

    public static void main(String[] args) {
        Checks.sentence("Two WORDS, 0 and 1", EdgesOfWordsTest::twoWords);
        Checks.sentence("rows of at most 16 LETTERS", EdgesOfWordsTest::mostLetters);
        Checks.sentence("LETTERS 1 .. 16", EdgesOfWordsTest::allLetters);
        Checks.sentence("at first without any", EdgesOfWordsTest::withoutLetters);
        Checks.sentence("7: A letter more in a word", EdgesOfWordsTest::letterMore);
        Checks.sentence("7: False when it is none", EdgesOfWordsTest::noLetter);
        Checks.sentence("7: or there are 16", EdgesOfWordsTest::fullWord);
        Checks.sentence("8: The word keeps its first n letters", EdgesOfWordsTest::keepsFirst);
        Checks.sentence("8: False when n is negative", EdgesOfWordsTest::cutBelowNought);
        Checks.sentence("8: or it has not so many", EdgesOfWordsTest::cutTooLong);
        Checks.sentence("9: How many letters a word has", EdgesOfWordsTest::lengths);
        Checks.sentence("10: Letter i of a word", EdgesOfWordsTest::lettersThatAre);
        Checks.sentence("10: 0 when there is none", EdgesOfWordsTest::lettersThatAreNot);
        Checks.finish();
    }

    private static TableauBench withWord(int word, int count) {
        TableauBench x = new TableauBench();
        for (int i = 0; i < count; i++) {
            Checks.same("letter " + i, x.letter(word, due(i)), true);
        }
        return x;
    }

    /** Letter i of the words that these tests make: 7, 14, 5, 12, .. , each letter once. */
    private static int due(int i) {
        return 1 + (7 * i + 6) % 16;
    }

    private static String due(int from, int to) {
        StringJoiner text = new StringJoiner(" ");
        for (int i = from; i < to; i++) {
            text.add(Integer.toString(due(i)));
        }
        return text.toString();
    }

    private static void twoWords() {
        TableauBench x = withWord(0, 5);
        Checks.same("word 1 beside word 0", Checks.word(x, 1), "");
        Checks.setWord(x, 1, 9, 9);
        Checks.same("word 0 beside word 1", Checks.word(x, 0), due(0, 5));
        x.cut(0, 1);
        Checks.same("word 1 after a cut of word 0", Checks.word(x, 1), "9 9");
        x.cut(1, 0);
        Checks.same("word 0 after a cut of word 1", Checks.word(x, 0), due(0, 1));
        Checks.fails("word 2", IndexOutOfBoundsException.class, () -> x.length(2));
        Checks.fails("word -1", IndexOutOfBoundsException.class, () -> x.length(-1));
    }

    private static void mostLetters() {
        for (int w = 0; w < 2; w++) {
            TableauBench x = withWord(w, 16);
            Checks.same("16 letters", Checks.word(x, w), due(0, 16));
            Checks.same("a 17th", x.letter(w, 1), false);
            Checks.same("the length", x.length(w), 16);
            Checks.same("the other word", x.length(1 - w), 0);
            Checks.same("its first letter", x.letter(1 - w, 1), true);
        }
    }

    private static void allLetters() {
        TableauBench x = new TableauBench();
        for (int v = 1; v <= 16; v++) {
            Checks.same("letter " + v, x.letter(0, v), true);
            Checks.same("letter " + (17 - v), x.letter(1, 17 - v), true);
        }
        for (int v = 1; v <= 16; v++) {
            Checks.same("at " + (v - 1), x.at(0, v - 1), v);
            Checks.same("at " + (v - 1), x.at(1, v - 1), 17 - v);
        }
        Checks.same("0", x.letter(0, 0), false);
        Checks.same("17", x.letter(0, 17), false);
    }

    private static void withoutLetters() {
        TableauBench x = new TableauBench();
        for (int w = 0; w < 2; w++) {
            Checks.same("the length", x.length(w), 0);
            for (int i = 0; i < 16; i++) {
                Checks.same("at " + i, x.at(w, i), 0);
            }
            Checks.same("cut 1", x.cut(w, 1), false);
            Checks.same("cut 0", x.cut(w, 0), true);
            Checks.same("inserted", x.insert(w, false), 0);
        }
    }

    private static void letterMore() {
        for (int count = 0; count < 16; count++) {
            TableauBench x = withWord(1, count);
            Checks.same("letter 16", x.letter(1, 16), true);
            Checks.same("the length", x.length(1), count + 1);
            Checks.same("the new letter", x.at(1, count), 16);
            Checks.same("behind it", x.at(1, count + 1), 0);
            Checks.same("the letters before", x.cut(1, count), true);
            Checks.same("are as they were", Checks.word(x, 1), due(0, count));
        }
        TableauBench x = new TableauBench();
        Checks.setWord(x, 0, 4, 4, 4, 1);
        Checks.same("the same letter again", Checks.word(x, 0), "4 4 4 1");
    }

    private static void noLetter() {
        for (int count = 0; count <= 16; count += 8) {
            for (int v : NO_LETTERS) {
                TableauBench x = withWord(0, count);
                Checks.declines("letter " + v, x, () -> x.letter(0, v));
            }
        }
    }

    private static void fullWord() {
        for (int v = 1; v <= 16; v++) {
            int letter = v;
            TableauBench x = withWord(0, 16);
            Checks.declines("letter " + v + " behind 16", x, () -> x.letter(0, letter));
        }
        TableauBench x = withWord(1, 15);
        Checks.same("a 16th", x.letter(1, 3), true);
        Checks.same("a 17th", x.letter(1, 3), false);
        Checks.same("cut 15", x.cut(1, 15), true);
        Checks.same("a 16th again", x.letter(1, 4), true);
        Checks.same("a 17th again", x.letter(1, 4), false);
        Checks.same("the last letter", x.at(1, 15), 4);
    }

    private static void keepsFirst() {
        for (int count = 0; count <= 16; count++) {
            for (int n = 0; n <= count; n++) {
                TableauBench x = withWord(0, count);
                Checks.same("cut " + n + " of " + count, x.cut(0, n), true);
                Checks.same("the word then", Checks.word(x, 0), due(0, n));
                Checks.same("behind its end", x.at(0, n), 0);
                Checks.same("what is gone stays gone", x.cut(0, n + 1), false);
            }
        }
    }

    private static void cutBelowNought() {
        int[] below = {-1, -2, -16, -17, -256, Integer.MIN_VALUE, Integer.MIN_VALUE + 3};
        for (int count = 0; count <= 16; count += 4) {
            for (int n : below) {
                TableauBench x = withWord(1, count);
                Checks.declines("cut " + n + " of " + count, x, () -> x.cut(1, n));
            }
        }
    }

    private static void cutTooLong() {
        for (int count = 0; count <= 16; count++) {
            int[] tooLong = {count + 1, 17, 32, 256, 256 + count, Integer.MAX_VALUE};
            for (int n : tooLong) {
                TableauBench x = withWord(1, count);
                Checks.declines("cut " + n + " of " + count, x, () -> x.cut(1, n));
            }
        }
    }

    private static void lengths() {
        for (int count = 0; count <= 16; count++) {
            TableauBench x = withWord(0, count);
            Checks.same("the length", x.length(0), count);
            Checks.same("that of the other", x.length(1), 0);
        }
        TableauBench x = withWord(0, 9);
        Checks.setShape(x, 0, 5, 4);
        x.draw(0, 1);
        x.read(1);
        Checks.same("the length of a reading", x.length(1), 9);
        x.insert(0, true);
        x.cut(0, 0);
        x.recover(0);
        Checks.same("the length of what is recovered", x.length(0), 9);
    }

    private static void lettersThatAre() {
        TableauBench x = withWord(1, 16);
        for (int i = 0; i < 16; i++) {
            Checks.same("at " + i, x.at(1, i), due(i));
        }
    }

    private static void lettersThatAreNot() {
        for (int count = 0; count <= 16; count++) {
            TableauBench x = withWord(1, 16);
            x.cut(1, count);
            int[] none = {count, count + 1, 15 + (count == 16 ? 1 : 0), 16, 17, 32, 256, 1 << 30, Integer.MAX_VALUE, -1, -2,
                -16, -256, Integer.MIN_VALUE};
            for (int i : none) {
                Checks.same("at " + i + " of " + count, x.at(1, i), 0);
            }
        }
    }
}
