/** Promises 11 to 15: insert, entry, recover, read, equivalent. */
public final class InsertionTest {
    private static final int[] WORD = {3, 1, 2, 2, 1, 4, 1};

    private InsertionTest() {
    }

    public static void main(String[] args) {
        byRows();
        byColumns();
        longestWords();
        noLetters();
        entries();
        recovers();
        recoverRefused();
        recoversAllShortWords();
        reads();
        readRefused();
        equivalents();
        numbersOfWords();
        Checks.finish();
    }

    private static void byRows() {
        TableauBench x = new TableauBench();
        Checks.setWord(x, 0, WORD);
        Checks.same("insert by rows", x.insert(0, false), 3);
        Checks.same("P", Checks.p(x), "1 1 1 4 / 2 2 / 3");
        Checks.same("Q", Checks.q(x), "1 3 4 6 / 2 7 / 5");
        Checks.same("the word stays", Checks.word(x, 0), "3 1 2 2 1 4 1");
        Checks.setWord(x, 1, 5, 5);
        Checks.same("insert the other word", x.insert(1, false), 1);
        Checks.same("P begins anew", Checks.p(x), "5 5");
        Checks.same("Q begins anew", Checks.q(x), "1 2");
    }

    private static void byColumns() {
        TableauBench x = new TableauBench();
        Checks.setWord(x, 1, WORD);
        Checks.same("insert by columns", x.insert(1, true), 3);
        Checks.same("P", Checks.p(x), "1 1 1 2 3 / 2 / 4");
        Checks.same("Q", Checks.q(x), "1 2 4 5 7 / 3 / 6");
        Checks.setWord(x, 0, 5, 5);
        Checks.same("equal letters by columns", x.insert(0, true), 1);
        Checks.same("P", Checks.p(x), "5 5");
        Checks.setWord(x, 0, 1, 2, 3);
        Checks.same("letters that grow, by columns", x.insert(0, true), 3);
        Checks.same("P", Checks.p(x), "1 / 2 / 3");
        Checks.same("Q", Checks.q(x), "1 / 2 / 3");
    }

    private static void longestWords() {
        TableauBench x = new TableauBench();
        for (int i = 0; i < 16; i++) {
            x.letter(0, 16 - i);
            x.letter(1, i + 1);
        }
        String column = "1 / 2 / 3 / 4 / 5 / 6 / 7 / 8 / 9 / 10 / 11 / 12 / 13 / 14 / 15 / 16";
        String row = "1 2 3 4 5 6 7 8 9 10 11 12 13 14 15 16";
        Checks.same("16 rows", x.insert(0, false), 16);
        Checks.same("P", Checks.p(x), column);
        Checks.same("Q", Checks.q(x), column);
        x.read(0);
        Checks.same("its reading", Checks.word(x, 0), "16 15 14 13 12 11 10 9 8 7 6 5 4 3 2 1");
        Checks.same("1 row", x.insert(1, false), 1);
        Checks.same("P", Checks.p(x), row);
        Checks.same("1 row by columns", x.insert(0, true), 1);
        Checks.same("P", Checks.p(x), row);
        Checks.same("Q", Checks.q(x), row);
        Checks.same("16 rows by columns", x.insert(1, true), 16);
        Checks.same("P", Checks.p(x), column);
        x.recover(0);
        Checks.same("the word by rows", Checks.word(x, 0), "16 15 14 13 12 11 10 9 8 7 6 5 4 3 2 1");
    }

    private static void noLetters() {
        TableauBench x = new TableauBench();
        Checks.setWord(x, 1, 2, 1);
        x.insert(1, false);
        Checks.same("insert none", x.insert(0, false), 0);
        Checks.same("P", Checks.p(x), "");
        Checks.same("Q", Checks.q(x), "");
        x.recover(1);
        Checks.same("none is taken out", Checks.word(x, 1), "");
        Checks.same("insert none by columns", x.insert(0, true), 0);
        x.recover(0);
        Checks.same("none is taken out", Checks.word(x, 0), "");
    }

    private static void entries() {
        TableauBench x = new TableauBench();
        Checks.setWord(x, 0, WORD);
        x.insert(0, false);
        Checks.same("P at (0, 3)", x.entry(false, 0, 3), 4);
        Checks.same("Q at (2, 0)", x.entry(true, 2, 0), 5);
        int[][] outside = {{0, 4}, {1, 2}, {2, 1}, {3, 0}, {-1, 0}, {0, -1}, {16, 0}, {0, 24}, {1, -24}, {-1, 24},
            {Integer.MAX_VALUE, 0}, {0, Integer.MAX_VALUE}, {Integer.MIN_VALUE, 0}, {0, Integer.MIN_VALUE},
            {Integer.MAX_VALUE, Integer.MAX_VALUE}, {Integer.MIN_VALUE, Integer.MIN_VALUE}};
        for (int[] box : outside) {
            Checks.same("P at no box", x.entry(false, box[0], box[1]), 0);
            Checks.same("Q at no box", x.entry(true, box[0], box[1]), 0);
        }
        Checks.setShape(x, 0, 2, 1);
        x.draw(0, 1);
        Checks.same("Q, which is away", x.entry(true, 0, 0), 0);
        Checks.same("P, which is not", x.entry(false, 0, 0), 1);
    }

    private static void recovers() {
        TableauBench x = new TableauBench();
        Checks.setWord(x, 0, WORD);
        x.insert(0, false);
        Checks.setWord(x, 0, 9, 9, 9, 9, 9, 9, 9, 9, 9, 9);
        x.recover(0);
        Checks.same("the word again", Checks.word(x, 0), "3 1 2 2 1 4 1");
        Checks.same("P stays", Checks.p(x), "1 1 1 4 / 2 2 / 3");
        Checks.same("Q stays", Checks.q(x), "1 3 4 6 / 2 7 / 5");
        x.insert(0, true);
        x.recover(1);
        Checks.same("another word after columns", Checks.word(x, 1), "1 4 1 2 2 1 3");
        Checks.same("word 0 stays", Checks.word(x, 0), "3 1 2 2 1 4 1");
        String p = Checks.p(x);
        String q = Checks.q(x);
        x.insert(1, false);
        Checks.same("P of that", Checks.p(x), p);
        Checks.same("Q of that", Checks.q(x), q);
    }

    private static void recoverRefused() {
        TableauBench x = new TableauBench();
        Checks.setWord(x, 1, 2, 1);
        Checks.refuses("recover at first", x, IllegalStateException.class, () -> x.recover(1));
        x.insert(1, false);
        x.turn();
        Checks.refuses("recover after turn", x, IllegalStateException.class, () -> x.recover(1));
        TableauBench y = new TableauBench();
        Checks.setWord(y, 1, 2, 1);
        y.insert(1, false);
        y.draw(0, 1);
        Checks.refuses("recover after draw", y, IllegalStateException.class, () -> y.recover(1));
        y.insert(1, false);
        Checks.setShape(y, 1, 2, 1);
        Checks.setShape(y, 0, 1);
        y.rectify(0, 1, 1, 0);
        Checks.refuses("recover after rectify", y, IllegalStateException.class, () -> y.recover(1));
        y.insert(0, false);
        y.recover(1);
        Checks.same("Q is there again", Checks.word(y, 1), "");
    }

    /** What is counted in two ways: every word of four of four letters comes back. */
    private static void recoversAllShortWords() {
        for (int code = 0; code < 256; code++) {
            TableauBench x = new TableauBench();
            Checks.setWord(x, 0, 1 + code % 4, 1 + code / 4 % 4, 1 + code / 16 % 4, 1 + code / 64);
            x.insert(0, false);
            x.recover(1);
            Checks.same("the word again", Checks.word(x, 1), Checks.word(x, 0));
            x.insert(0, true);
            String p = Checks.p(x);
            String q = Checks.q(x);
            x.recover(1);
            x.insert(1, false);
            Checks.same("P by columns of " + Checks.word(x, 0), p, Checks.p(x));
            Checks.same("Q by columns of " + Checks.word(x, 0), q, Checks.q(x));
        }
    }

    private static void reads() {
        TableauBench x = new TableauBench();
        Checks.setWord(x, 0, WORD);
        x.insert(0, false);
        x.read(1);
        Checks.same("the reading", Checks.word(x, 1), "3 2 2 1 1 1 4");
        x.read(0);
        Checks.same("the reading over the word", Checks.word(x, 0), "3 2 2 1 1 1 4");
        Checks.same("P stays", Checks.p(x), "1 1 1 4 / 2 2 / 3");
        Checks.same("Q stays", Checks.q(x), "1 3 4 6 / 2 7 / 5");
        TableauBench y = new TableauBench();
        Checks.setWord(y, 0, 1, 2);
        y.read(0);
        Checks.same("the reading of none", Checks.word(y, 0), "");
        Checks.setShape(y, 0, 16);
        y.draw(0, 4);
        y.read(1);
        Checks.same("16 boxes", Checks.word(y, 1), "1 2 3 4 5 6 7 8 9 10 11 12 13 14 15 16");
    }

    private static void readRefused() {
        TableauBench x = new TableauBench();
        Checks.setWord(x, 1, 2, 1);
        Checks.setShape(x, 0, 17);
        x.draw(0, 4);
        Checks.refuses("read of 17 boxes", x, IllegalStateException.class, () -> x.read(1));
        Checks.setShape(x, 0, 3, 3, 3, 3, 3, 3, 3, 3);
        x.draw(0, 4);
        Checks.refuses("read of 24 boxes", x, IllegalStateException.class, () -> x.read(1));
    }

    private static void equivalents() {
        TableauBench x = new TableauBench();
        Checks.same("both without letters", x.equivalent(), true);
        Checks.setWord(x, 0, 2, 1, 3);
        Checks.same("one without", x.equivalent(), false);
        Checks.setWord(x, 1, 2, 3, 1);
        Checks.same("2 1 3 and 2 3 1", x.equivalent(), true);
        Checks.setWord(x, 1, 1, 3, 2);
        Checks.same("2 1 3 and 1 3 2", x.equivalent(), false);
        Checks.setWord(x, 0, 3, 1, 2);
        Checks.same("3 1 2 and 1 3 2", x.equivalent(), true);
        Checks.setWord(x, 0, 1, 2);
        Checks.setWord(x, 1, 1, 2, 3);
        Checks.same("a part of the other", x.equivalent(), false);
        Checks.setWord(x, 0, 1, 2, 4);
        Checks.same("the same shape, another letter", x.equivalent(), false);
        Checks.setWord(x, 0, WORD);
        x.insert(0, false);
        x.read(1);
        String before = Checks.all(x);
        Checks.same("a word and its P's reading", x.equivalent(), true);
        Checks.same("nothing on the bench changes", Checks.all(x), before);
        x.recover(0);
        Checks.same("Q is still there", Checks.word(x, 0), "3 1 2 2 1 4 1");
    }

    private static void numbersOfWords() {
        TableauBench x = new TableauBench();
        Checks.setWord(x, 0, WORD);
        x.insert(0, true);
        String before = Checks.all(x);
        Checks.noSlot("insert", () -> x.insert(2, false), () -> x.insert(-1, true));
        Checks.noSlot("recover", () -> x.recover(2), () -> x.recover(-1));
        Checks.noSlot("read", () -> x.read(2), () -> x.read(-1));
        Checks.same("nothing changes", Checks.all(x), before);
        TableauBench y = new TableauBench();
        Checks.setShape(y, 0, 20);
        y.draw(0, 1);
        Checks.noSlot("recover with Q away", () -> y.recover(2));
        Checks.noSlot("read of too many boxes", () -> y.read(-1));
    }
}
