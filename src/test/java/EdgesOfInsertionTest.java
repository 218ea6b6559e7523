/** The boundary cases that the document names for insertion and reading: "Terms" on these, and promises 11 to 15. */
public final class EdgesOfInsertionTest {
    private static final Class<IllegalStateException> STATE = IllegalStateException.class;
    private static final String UPWARDS = "1 2 3 4 5 6 7 8 9 10 11 12 13 14 15 16";
    private static final String DOWNWARDS = "16 15 14 13 12 11 10 9 8 7 6 5 4 3 2 1";
    private static final String COLUMN = UPWARDS.replace(" ", " / ");

    private EdgesOfInsertionTest() {
    }

    public static void main(String[] args) {
        terms();
        promises();
        Checks.finish();
    }

    private static void terms() {
        Checks.sentence("P and Q, at first both without boxes; Q may be AWAY, which it is at first",
            EdgesOfInsertionTest::awayAtFirst);
        Checks.sentence("if no letter in the row is greater than x, x comes to its end", EdgesOfInsertionTest::endOfRow);
        Checks.sentence("else the first one that is greater is replaced by x", EdgesOfInsertionTest::firstGreater);
        Checks.sentence("if all letters in the column are less than x, x comes to its end",
            EdgesOfInsertionTest::endOfColumn);
        Checks.sentence("else the first one that is not less is replaced by x", EdgesOfInsertionTest::firstNotLess);
        Checks.sentence("to begin with P and Q without boxes", EdgesOfInsertionTest::beginsAnew);
        Checks.sentence("the first one first (by columns, too)", EdgesOfInsertionTest::firstOneFirst);
        Checks.sentence("to put its number (1 for the first letter) into Q", EdgesOfInsertionTest::numbersInQ);
        Checks.sentence("row by row, the lowest row (greatest r) first, each from the left", EdgesOfInsertionTest::readings);
    }

    private static void promises() {
        Checks.sentence("11: the number of rows of P", EdgesOfInsertionTest::numbersOfRows);
        Checks.sentence("11: Q is there then", EdgesOfInsertionTest::qIsThere);
        Checks.sentence("12: The letter of P (q is false) or Q at a box", EdgesOfInsertionTest::lettersAtBoxes);
        Checks.sentence("12: 0 when there is no such box", EdgesOfInsertionTest::noSuchBox);
        Checks.sentence("12: or Q is away", EdgesOfInsertionTest::entriesOfQAway);
        Checks.sentence("13: The word becomes the one that, inserted by rows, gives P and Q", EdgesOfInsertionTest::recovers);
        Checks.sentence("13: also when they came of an insertion by columns", EdgesOfInsertionTest::recoversAfterColumns);
        Checks.sentence("13: IllegalStateException when Q is away", EdgesOfInsertionTest::recoverWithQAway);
        Checks.sentence("14: The word becomes the READING of P", EdgesOfInsertionTest::readsInto);
        Checks.sentence("14: IllegalStateException when P has more than 16 boxes", EdgesOfInsertionTest::readsTooMany);
        Checks.sentence("14: or a letter greater than 16", EdgesOfInsertionTest::readsGreatLetters);
        Checks.sentence("15: Whether both words, inserted by rows, give the same P", EdgesOfInsertionTest::equivalents);
        Checks.sentence("15: Nothing on the bench changes", EdgesOfInsertionTest::equivalentChangesNothing);
    }

    private static TableauBench with(int... letters) {
        TableauBench x = Benches.used();
        Checks.setWord(x, 0, letters);
        return x;
    }

    private static int[] upwards() {
        int[] letters = new int[16];
        for (int i = 0; i < 16; i++) {
            letters[i] = i + 1;
        }
        return letters;
    }

    private static int[] downwards() {
        int[] letters = new int[16];
        for (int i = 0; i < 16; i++) {
            letters[i] = 16 - i;
        }
        return letters;
    }

    private static void inserts(String p, String q, boolean columns, int... letters) {
        TableauBench x = with(letters);
        String what = (columns ? " by columns of " : " by rows of ") + Checks.word(x, 0);
        Checks.same("rows" + what, x.insert(0, columns), p.isEmpty() ? 0 : p.split("/").length);
        Checks.same("P" + what, Checks.p(x), p);
        Checks.same("Q" + what, Checks.q(x), q);
    }

    private static void byRows(String p, String q, int... letters) {
        inserts(p, q, false, letters);
    }

    private static void byColumns(String p, String q, int... letters) {
        inserts(p, q, true, letters);
    }

    private static void awayAtFirst() {
        TableauBench x = new TableauBench();
        Checks.same("P", Checks.p(x), "");
        Checks.same("Q", Checks.q(x), "");
        Checks.fails("recover 0", STATE, () -> x.recover(0));
        Checks.fails("recover 1", STATE, () -> x.recover(1));
        x.read(0);
        Checks.same("the reading of P", x.length(0), 0);
    }

    private static void endOfRow() {
        byRows("5", "1", 5);
        byRows("5 5", "1 2", 5, 5);
        byRows("5 6", "1 2", 5, 6);
        byRows("16 16 16", "1 2 3", 16, 16, 16);
        byRows("1 1 2 / 2 2", "1 2 4 / 3 5", 2, 2, 1, 2, 1);
        byRows(UPWARDS, UPWARDS, upwards());
        byRows("7 7 7 7 7 7 7 7 7 7 7 7 7 7 7 7", UPWARDS, 7, 7, 7, 7, 7, 7, 7, 7, 7, 7, 7, 7, 7, 7, 7, 7);
    }

    private static void firstGreater() {
        byRows("4 / 5", "1 / 2", 5, 4);
        byRows("1 1 2 3 / 2", "1 2 3 4 / 5", 1, 2, 2, 3, 1);
        byRows("1 2 3 / 3", "1 2 3 / 4", 1, 3, 3, 2);
        byRows("2 2 / 3 3", "1 2 / 3 4", 3, 3, 2, 2);
        byRows("1 2 / 2 3 / 3", "1 2 / 3 4 / 5", 3, 3, 2, 2, 1);
        byRows("1 16 / 2", "1 3 / 2", 2, 1, 16);
        byRows(COLUMN, COLUMN, downwards());
    }

    private static void endOfColumn() {
        byColumns("5", "1", 5);
        byColumns("5 / 6", "1 / 2", 5, 6);
        byColumns("1 3 / 2 / 4", "1 2 / 3 / 4", 3, 1, 2, 4);
        byColumns("1 2 / 2 3 / 3", "1 4 / 2 5 / 3", 1, 2, 3, 2, 3);
        byColumns(COLUMN, COLUMN, upwards());
    }

    private static void firstNotLess() {
        byColumns("5 5", "1 2", 5, 5);
        byColumns("4 5", "1 2", 5, 4);
        byColumns("1 3 / 2", "1 3 / 2", 1, 3, 2);
        byColumns("1 1 / 2", "1 3 / 2", 1, 2, 1);
        byColumns("1 2 / 2 / 3", "1 4 / 2 / 3", 1, 2, 3, 2);
        byColumns("1 1 2 2", "1 2 3 4", 2, 2, 1, 1);
        byColumns(UPWARDS, UPWARDS, downwards());
        byColumns("7 7 7 7 7 7 7 7 7 7 7 7 7 7 7 7", UPWARDS, 7, 7, 7, 7, 7, 7, 7, 7, 7, 7, 7, 7, 7, 7, 7, 7);
    }

    private static void beginsAnew() {
        for (int columns = 0; columns < 2; columns++) {
            TableauBench x = with(downwards());
            Checks.setWord(x, 1, 2, 2);
            Checks.setShape(x, 3, 9, 5, 3, 2, 2, 1, 1, 1);
            x.insert(0, false);
            x.insert(1, columns == 1);
            Checks.same("P after another insertion", Checks.p(x), "2 2");
            Checks.same("Q after another insertion", Checks.q(x), "1 2");
            Checks.same("P at (15, 0)", x.entry(false, 15, 0), 0);
            x.insert(1, columns == 1);
            Checks.same("P after the same insertion", Checks.p(x), "2 2");
            x.draw(3, 8);
            x.insert(1, columns == 1);
            Checks.same("P after a drawing", Checks.p(x), "2 2");
            Checks.same("Q after a drawing", Checks.q(x), "1 2");
            x.cut(1, 0);
            x.insert(1, columns == 1);
            Checks.same("P of no letters", Checks.p(x), "");
            Checks.same("Q of no letters", Checks.q(x), "");
        }
    }

    private static void firstOneFirst() {
        byRows("1 / 2", "1 / 2", 2, 1);
        byRows("1 2", "1 2", 1, 2);
        byColumns("1 / 2", "1 / 2", 1, 2);
        byColumns("1 2", "1 2", 2, 1);
        byRows("1 1 1 4 / 2 2 / 3", "1 3 4 6 / 2 7 / 5", 3, 1, 2, 2, 1, 4, 1);
        byColumns("1 1 1 2 3 / 2 / 4", "1 2 4 5 7 / 3 / 6", 3, 1, 2, 2, 1, 4, 1);
    }

    private static void numbersInQ() {
        byRows("9", "1", 9);
        byColumns("9", "1", 9);
        byRows("1 3 / 2", "1 3 / 2", 2, 1, 3);
        byRows("1 3 / 2", "1 2 / 3", 2, 3, 1);
        byColumns("1 2 / 3", "1 2 / 3", 2, 1, 3);
        byColumns("1 2 / 3", "1 3 / 2", 2, 3, 1);
    }

    private static void reading(String due, int... letters) {
        TableauBench x = with(letters);
        x.insert(0, false);
        x.read(1);
        Checks.same("the reading of " + Checks.p(x), Checks.word(x, 1), due);
    }

    private static void readings() {
        reading("");
        reading("9", 9);
        reading("2 1", 2, 1);
        reading("1 2", 1, 2);
        reading("3 2 2 1 1 1 4", 3, 1, 2, 2, 1, 4, 1);
        reading(DOWNWARDS, downwards());
        reading(UPWARDS, upwards());
        TableauBench x = Benches.used();
        Checks.setShape(x, 0, 2, 2, 2, 2, 2, 2, 2, 2);
        Checks.setWord(x, 0, 15, 16, 13, 14, 11, 12, 9, 10, 7, 8, 5, 6, 3, 4, 1, 2);
        x.rectify(1, 0, 0, 0);
        x.read(1);
        Checks.same("the reading of eight rows of two", Checks.word(x, 1), "15 16 13 14 11 12 9 10 7 8 5 6 3 4 1 2");
    }

    private static void numbersOfRows() {
        for (int n = 0; n <= 16; n++) {
            TableauBench x = with(downwards());
            Checks.setWord(x, 1, upwards());
            x.cut(0, n);
            x.cut(1, n);
            Checks.same(n + " letters downwards by rows", x.insert(0, false), n);
            Checks.same(n + " letters upwards by columns", x.insert(1, true), n);
            Checks.same(n + " letters downwards by columns", x.insert(0, true), Math.min(n, 1));
            Checks.same(n + " letters upwards by rows", x.insert(1, false), Math.min(n, 1));
        }
        byRows("1 1 / 2 2 / 3 3", "1 2 / 3 4 / 5 6", 3, 3, 2, 2, 1, 1);
    }

    private static void qIsThere() {
        for (int columns = 0; columns < 2; columns++) {
            TableauBench x = Benches.used();
            x.insert(0, columns == 1);
            x.recover(1);
            Checks.same("Q of no letters is there", x.length(1), 0);
            x.draw(0, 1);
            Checks.fails("recover with Q away", STATE, () -> x.recover(1));
            x.letter(0, 6);
            x.insert(0, columns == 1);
            Checks.same("Q is there again", x.entry(true, 0, 0), 1);
            x.recover(1);
            Checks.same("what is recovered", Checks.word(x, 1), "6");
        }
    }

    private static void lettersAtBoxes() {
        TableauBench x = with(3, 1, 2, 2, 1, 4, 1);
        x.insert(0, false);
        int[][] p = {{1, 1, 1, 4}, {2, 2}, {3}};
        int[][] q = {{1, 3, 4, 6}, {2, 7}, {5}};
        for (int r = 0; r < 3; r++) {
            for (int c = 0; c < p[r].length; c++) {
                Checks.same("P at " + r + ", " + c, x.entry(false, r, c), p[r][c]);
                Checks.same("Q at " + r + ", " + c, x.entry(true, r, c), q[r][c]);
            }
        }
    }

    private static void noBox(TableauBench x, int r, int c) {
        Checks.same("P at " + r + ", " + c, x.entry(false, r, c), 0);
        Checks.same("Q at " + r + ", " + c, x.entry(true, r, c), 0);
    }

    private static void noBoxesFarOut(TableauBench x) {
        int[] far = {-1, -2, -16, -24, -25, 24, 25, 32, 256, 384, 1 << 27, Integer.MIN_VALUE, Integer.MAX_VALUE};
        for (int i : far) {
            noBox(x, i, 0);
            noBox(x, 0, i);
            noBox(x, i, i);
            noBox(x, 1, i);
        }
        noBox(x, -1, 24);
        noBox(x, -1, 25);
        noBox(x, 1, -24);
        noBox(x, 1, -1);
        noBox(x, 2, -48);
        noBox(x, -2, 48);
    }

    private static void noSuchBox() {
        TableauBench row = with(upwards());
        row.insert(0, false);
        Checks.same("the last box of a row", row.entry(false, 0, 15), 16);
        Checks.same("the last box of a row of Q", row.entry(true, 0, 15), 16);
        noBox(row, 0, 16);
        noBox(row, 1, 0);
        noBoxesFarOut(row);
        TableauBench column = with(downwards());
        column.insert(0, false);
        Checks.same("the last box of a column", column.entry(false, 15, 0), 16);
        Checks.same("the last box of a column of Q", column.entry(true, 15, 0), 16);
        noBox(column, 16, 0);
        noBox(column, 15, 1);
        noBox(column, 0, 1);
        noBoxesFarOut(column);
        TableauBench both = with(3, 1, 2, 2, 1, 4, 1);
        both.insert(0, false);
        noBox(both, 0, 4);
        noBox(both, 1, 2);
        noBox(both, 2, 1);
        noBox(both, 3, 0);
        noBoxesFarOut(both);
        noBoxesFarOut(new TableauBench());
        noSuchBoxOfDrawn();
    }

    private static void noSuchBoxOfDrawn() {
        TableauBench x = Benches.used();
        Checks.setShape(x, 0, 24);
        x.draw(0, 1);
        Checks.same("the last box of 24", x.entry(false, 0, 23), 24);
        noBox(x, 0, 24);
        noBox(x, 1, 0);
        noBoxesFarOut(x);
        Checks.setShape(x, 0, 3, 3, 3, 3, 3, 3, 3, 3);
        x.draw(0, 1);
        Checks.same("the last box of eight rows", x.entry(false, 7, 2), 24);
        noBox(x, 7, 3);
        noBox(x, 8, 0);
        noBox(x, 0, 3);
    }

    private static void entriesOfQAway() {
        for (int how = 0; how < 3; how++) {
            TableauBench x = with(2, 1, 3);
            Checks.setShape(x, 0, 3);
            x.insert(0, false);
            Checks.same("Q at (1, 0)", x.entry(true, 1, 0), 2);
            putQAway(x, how);
            for (int r = 0; r < 3; r++) {
                for (int c = 0; c < 3; c++) {
                    Checks.same("Q, away, at " + r + ", " + c, x.entry(true, r, c), 0);
                }
            }
            Checks.same("P is not away", x.entry(false, 0, 0) != 0, true);
        }
        noBox(new TableauBench(), 0, 0);
    }

    private static void putQAway(TableauBench x, int how) {
        if (how == 0) {
            x.turn();
        } else if (how == 1) {
            x.draw(0, 1);
        } else {
            x.cut(0, 0);
            x.letter(0, 1);
            x.letter(0, 1);
            x.letter(0, 1);
            x.rectify(1, 0, 0, 0);
        }
    }

    private static void comesBack(int... letters) {
        TableauBench x = with(letters);
        Checks.setWord(x, 1, 8, 8, 8);
        String word = Checks.word(x, 0);
        x.insert(0, false);
        String p = Checks.p(x);
        String q = Checks.q(x);
        x.recover(1);
        Checks.same("what is recovered", Checks.word(x, 1), word);
        Checks.same("the other word", Checks.word(x, 0), word);
        x.cut(0, 0);
        x.recover(0);
        Checks.same("what is recovered into word 0", Checks.word(x, 0), word);
        Checks.same("P", Checks.p(x), p);
        Checks.same("Q", Checks.q(x), q);
    }

    private static void recovers() {
        comesBack();
        comesBack(16);
        comesBack(1, 1);
        comesBack(upwards());
        comesBack(downwards());
        comesBack(7, 7, 7, 7, 7, 7, 7, 7, 7, 7, 7, 7, 7, 7, 7, 7);
        comesBack(8, 16, 8, 1, 1, 15, 2, 9, 9, 3, 16, 4, 4, 1, 7, 7);
        comesBack(4, 3, 2, 1, 4, 3, 2, 1, 4, 3, 2, 1, 4, 3, 2, 1);
        comesBack(1, 2, 3, 4, 1, 2, 3, 4, 1, 2, 3, 4, 1, 2, 3, 4);
        comesBack(16, 1, 15, 2, 14, 3, 13, 4, 12, 5, 11, 6, 10, 7, 9, 8);
    }

    private static void recoversAfterColumns() {
        for (int code = 0; code < 243; code++) {
            int[] letters = {1 + code % 3, 1 + code / 3 % 3, 1 + code / 9 % 3, 1 + code / 27 % 3, 1 + code / 81};
            TableauBench x = with(letters);
            x.insert(0, true);
            String p = Checks.p(x);
            String q = Checks.q(x);
            x.recover(1);
            x.insert(1, false);
            Checks.same("P of what is recovered", Checks.p(x), p);
            Checks.same("Q of what is recovered", Checks.q(x), q);
        }
        TableauBench x = with(upwards());
        x.insert(0, true);
        x.recover(1);
        Checks.same("recovered of a column", Checks.word(x, 1), DOWNWARDS);
        x.insert(1, true);
        x.recover(0);
        Checks.same("recovered of a row", Checks.word(x, 0), UPWARDS);
    }

    private static void recoverWithQAway() {
        for (int how = 0; how < 3; how++) {
            for (int columns = 0; columns < 2; columns++) {
                TableauBench x = with(2, 1, 3);
                Checks.setShape(x, 0, 3);
                x.insert(0, columns == 1);
                x.recover(1);
                putQAway(x, how);
                Checks.refuses("recover 0", x, STATE, () -> x.recover(0));
                Checks.refuses("recover 1", x, STATE, () -> x.recover(1));
            }
        }
        TableauBench x = Benches.used();
        Checks.refuses("recover 0 at first", x, STATE, () -> x.recover(0));
        Checks.refuses("recover 1 at first", x, STATE, () -> x.recover(1));
        x.insert(0, false);
        x.turn();
        Checks.refuses("recover after a turn of none", x, STATE, () -> x.recover(0));
        x.insert(0, false);
        x.draw(0, 1);
        Checks.refuses("recover after a drawing of none", x, STATE, () -> x.recover(0));
        x.insert(0, false);
        x.rectify(0, 0, 0, 0);
        Checks.refuses("recover after no slides of none", x, STATE, () -> x.recover(0));
    }

    private static void readsInto() {
        for (int w = 0; w < 2; w++) {
            TableauBench x = with(3, 1, 2, 2, 1, 4, 1);
            x.insert(0, false);
            Checks.setWord(x, 0, downwards());
            Checks.setWord(x, 1, downwards());
            String q = Checks.q(x);
            x.read(w);
            Checks.same("the word", Checks.word(x, w), "3 2 2 1 1 1 4");
            Checks.same("behind it", x.at(w, 7), 0);
            Checks.same("the other word", Checks.word(x, 1 - w), DOWNWARDS);
            Checks.same("P", Checks.p(x), "1 1 1 4 / 2 2 / 3");
            Checks.same("Q", Checks.q(x), q);
            x.recover(w);
            Checks.same("Q is still there", Checks.word(x, w), "3 1 2 2 1 4 1");
        }
        TableauBench x = with(downwards());
        x.read(0);
        Checks.same("the reading of no boxes", Checks.word(x, 0), "");
    }

    private static void reads(boolean may, int... lengths) {
        TableauBench x = with(2, 1, 3);
        Checks.setShape(x, 2, lengths);
        x.draw(2, 31);
        if (may) {
            x.read(0);
            x.read(1);
            Checks.same("the length of the reading", x.length(0), x.length(1));
            Checks.same("the last letter of row 0", x.at(0, x.length(0) - 1), x.entry(false, 0, lengths[0] - 1));
            Checks.same("the first letter of the last row", x.at(1, 0), x.entry(false, lengths.length - 1, 0));
        } else {
            Checks.refuses("read 0", x, STATE, () -> x.read(0));
            Checks.refuses("read 1", x, STATE, () -> x.read(1));
        }
    }

    private static void readsTooMany() {
        for (int n = 1; n <= 24; n++) {
            reads(n <= 16, n);
            if (n >= 2) {
                reads(n <= 16, n - 1, 1);
                reads(n <= 16, n - n / 2, n / 2);
            }
        }
        reads(true, 2, 2, 2, 2, 2, 2, 2, 2);
        reads(false, 3, 2, 2, 2, 2, 2, 2, 2);
        reads(true, 9, 1, 1, 1, 1, 1, 1, 1);
        reads(false, 10, 1, 1, 1, 1, 1, 1, 1);
    }

    /** A P of at most 16 boxes has none; so that 16 itself, which is none, must be read. */
    private static void readsGreatLetters() {
        TableauBench x = with(16, 16, 16, 15);
        x.insert(0, false);
        x.read(1);
        Checks.same("the reading of letters 16", Checks.word(x, 1), "16 15 16 16");
        Checks.setShape(x, 0, 16);
        x.draw(0, 5);
        x.read(1);
        Checks.same("the reading of 1 .. 16", Checks.word(x, 1), UPWARDS);
        Checks.setShape(x, 0, 17);
        x.draw(0, 5);
        Checks.same("a letter 17", x.entry(false, 0, 16), 17);
        Checks.fails("read of 1 .. 17", STATE, () -> x.read(1));
        x.turn();
        Checks.fails("read of 1 .. 17, turned", STATE, () -> x.read(1));
    }

    private static void equivalent(boolean due, int[] first, int[] second) {
        TableauBench x = with(first);
        Checks.setWord(x, 1, second);
        Checks.same(Checks.word(x, 0) + " and " + Checks.word(x, 1), x.equivalent(), due);
        Checks.setWord(x, 0, second);
        Checks.setWord(x, 1, first);
        Checks.same(Checks.word(x, 0) + " and " + Checks.word(x, 1), x.equivalent(), due);
    }

    private static void equivalents() {
        equivalent(true, new int[] {}, new int[] {});
        equivalent(false, new int[] {}, new int[] {1});
        equivalent(true, new int[] {9}, new int[] {9});
        equivalent(false, new int[] {9}, new int[] {8});
        equivalent(false, new int[] {9}, new int[] {9, 9});
        equivalent(false, new int[] {1, 2}, new int[] {2, 1});
        equivalent(false, new int[] {1, 2, 1}, new int[] {1, 2});
        equivalent(true, new int[] {2, 2, 1}, new int[] {2, 1, 2});
        equivalent(true, new int[] {1, 2, 1}, new int[] {2, 1, 1});
        equivalent(false, new int[] {1, 2, 1}, new int[] {1, 1, 2});
        equivalent(false, new int[] {2, 2, 1}, new int[] {1, 2, 2});
        equivalent(true, upwards(), upwards());
        equivalent(false, upwards(), downwards());
        int[] other = upwards();
        other[15] = 15;
        equivalent(false, upwards(), other);
        equivalentShortWords();
    }

    private static void equivalentShortWords() {
        for (int code = 0; code < 81 * 81; code++) {
            int[] first = {1 + code % 3, 1 + code / 3 % 3, 1 + code / 9 % 3, 1 + code / 27 % 3};
            int[] second = {1 + code / 81 % 3, 1 + code / 243 % 3, 1 + code / 729 % 3, 1 + code / 2187};
            TableauBench x = with(first);
            Checks.setWord(x, 1, second);
            x.insert(0, false);
            String p = Checks.p(x);
            x.insert(1, false);
            Checks.same(Checks.word(x, 0) + " and " + Checks.word(x, 1), x.equivalent(), p.equals(Checks.p(x)));
        }
    }

    private static void equivalentChangesNothing() {
        int[][] others = {{3, 2, 2, 1, 1, 1, 4}, {1}, {}, downwards()};
        for (int[] other : others) {
            TableauBench x = with(3, 1, 2, 2, 1, 4, 1);
            x.insert(0, true);
            Checks.setWord(x, 1, other);
            String before = Checks.all(x);
            x.equivalent();
            Checks.same("what is there", Checks.all(x), before);
            x.recover(1);
            Checks.same("what is recovered", Checks.word(x, 1), "1 4 1 2 2 1 3");
            TableauBench y = new TableauBench();
            Checks.setWord(y, 1, other);
            y.equivalent();
            Checks.fails("Q stays away", STATE, () -> y.recover(0));
        }
    }
}
