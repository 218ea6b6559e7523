/** Promises 7 to 10: letter, cut, length, at. */
public final class WordsTest {
    private WordsTest() {
    }

    public static void main(String[] args) {
        letters();
        fullWord();
        cuts();
        lengthsAndPlaces();
        Checks.finish();
    }

    private static void letters() {
        TableauBench x = new TableauBench();
        Checks.same("letter 1", x.letter(0, 1), true);
        Checks.same("letter 16", x.letter(0, 16), true);
        Checks.same("letter 7", x.letter(1, 7), true);
        int[] none = {0, 17, -1, 256 + 3, Integer.MAX_VALUE, Integer.MIN_VALUE};
        for (int v : none) {
            Checks.same("letter " + v, x.letter(0, v), false);
        }
        Checks.same("word 0", Checks.word(x, 0), "1 16");
        Checks.same("word 1", Checks.word(x, 1), "7");
        Checks.noSlot("letter", () -> x.letter(2, 1), () -> x.letter(-1, 1), () -> x.letter(2, 0),
            () -> x.letter(Integer.MIN_VALUE, 1));
    }

    private static void fullWord() {
        TableauBench x = new TableauBench();
        for (int v = 16; v >= 1; v--) {
            Checks.same("letter " + v, x.letter(1, v), true);
        }
        Checks.same("a 17th letter", x.letter(1, 5), false);
        Checks.same("a 17th that is none", x.letter(1, 0), false);
        Checks.same("16 letters", Checks.word(x, 1), "16 15 14 13 12 11 10 9 8 7 6 5 4 3 2 1");
        Checks.same("cut 15", x.cut(1, 15), true);
        Checks.same("a 16th again", x.letter(1, 9), true);
        Checks.same("the word then", Checks.word(x, 1), "16 15 14 13 12 11 10 9 8 7 6 5 4 3 2 9");
        Checks.same("the other one", Checks.word(x, 0), "");
    }

    private static void cuts() {
        TableauBench x = new TableauBench();
        Checks.setWord(x, 0, 3, 1, 2);
        Checks.setWord(x, 1, 5, 5);
        Checks.same("cut 4", x.cut(0, 4), false);
        Checks.same("cut -1", x.cut(0, -1), false);
        Checks.same("cut the least", x.cut(0, Integer.MIN_VALUE), false);
        Checks.same("cut the most", x.cut(0, Integer.MAX_VALUE), false);
        Checks.same("refused cuts change nothing", Checks.word(x, 0), "3 1 2");
        Checks.same("cut 3", x.cut(0, 3), true);
        Checks.same("the word then", Checks.word(x, 0), "3 1 2");
        Checks.same("cut 1", x.cut(0, 1), true);
        Checks.same("the word then", Checks.word(x, 0), "3");
        Checks.same("cut 2 of 1", x.cut(0, 2), false);
        Checks.same("the letter behind is gone", x.at(0, 1), 0);
        Checks.same("letter 4", x.letter(0, 4), true);
        Checks.same("the word then", Checks.word(x, 0), "3 4");
        Checks.same("cut 0", x.cut(0, 0), true);
        Checks.same("cut 0 of none", x.cut(0, 0), true);
        Checks.same("cut 1 of none", x.cut(0, 1), false);
        Checks.same("the other word", Checks.word(x, 1), "5 5");
        Checks.noSlot("cut", () -> x.cut(2, 0), () -> x.cut(-1, 0), () -> x.cut(2, -1));
    }

    private static void lengthsAndPlaces() {
        TableauBench x = new TableauBench();
        Checks.same("length of none", x.length(0), 0);
        Checks.setWord(x, 0, 9, 8, 7);
        Checks.same("length", x.length(0), 3);
        Checks.same("length of the other", x.length(1), 0);
        Checks.same("at 0", x.at(0, 0), 9);
        Checks.same("at 2", x.at(0, 2), 7);
        int[] outside = {3, 16, -1, Integer.MAX_VALUE, Integer.MIN_VALUE};
        for (int i : outside) {
            Checks.same("at " + i, x.at(0, i), 0);
        }
        Checks.noSlot("length", () -> x.length(2), () -> x.length(-1));
        Checks.noSlot("at", () -> x.at(2, 0), () -> x.at(-1, 0), () -> x.at(2, -1));
    }
}
