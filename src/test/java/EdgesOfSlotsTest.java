import java.util.Arrays;
import java.util.List;
import java.util.NoSuchElementException;

/** The boundary cases that the document names for slots: "Terms" on shapes, and promises 1 to 6. */
public final class EdgesOfSlotsTest {
    private static final Class<IllegalArgumentException> ARGUMENT = IllegalArgumentException.class;
    private static final Class<NoSuchElementException> ELEMENT = NoSuchElementException.class;
    private static final Class<UnsupportedOperationException> OPERATION = UnsupportedOperationException.class;
    /** How many shapes 0, 1, .. , 24 boxes make. */
    private static final int[] HOW_MANY = {1, 1, 2, 3, 5, 7, 11, 15, 22, 30, 42, 56, 77, 101, 135, 176, 231, 297, 385, 490,
        627, 792, 1002, 1255, 1575};

    private EdgesOfSlotsTest() {
    }

    public static void main(String[] args) {
        terms();
        promises();
        Checks.finish();
    }

    private static void terms() {
        Checks.sentence("each not more than the one before", EdgesOfSlotsTest::notMoreThanBefore);
        Checks.sentence("behind the last row that is not 0 all are", EdgesOfSlotsTest::noGaps);
        Checks.sentence("There are four SLOTS 0 .. 3", EdgesOfSlotsTest::fourSlots);
        Checks.sentence("a shape of at most 24 boxes", EdgesOfSlotsTest::mostBoxes);
        Checks.sentence("in at most 8 rows", EdgesOfSlotsTest::mostRows);
        Checks.sentence("at first without boxes", EdgesOfSlotsTest::withoutBoxes);
    }

    private static void promises() {
        Checks.sentence("1: All slots and words empty; P without boxes, Q away", EdgesOfSlotsTest::newObject);
        Checks.sentence("2: the lowest byte row 0", EdgesOfSlotsTest::bytesInOrder);
        Checks.sentence("2: False when it is no shape", EdgesOfSlotsTest::noShape);
        Checks.sentence("2: a byte is 0 .. 255", EdgesOfSlotsTest::bytesWithoutSign);
        Checks.sentence("2: or has more than 24 boxes", EdgesOfSlotsTest::tooManyBoxes);
        Checks.sentence("3: 0, if i is greater than 7", EdgesOfSlotsTest::rowsBehind);
        Checks.sentence("3: or below 0", EdgesOfSlotsTest::rowsBefore);
        Checks.sentence("3: The length of row i", EdgesOfSlotsTest::rowsWithin);
        Checks.sentence("4: The slot's rows become its columns", EdgesOfSlotsTest::columns);
        Checks.sentence("4: False when it would have more than 8 rows", EdgesOfSlotsTest::tooManyColumns);
        Checks.sentence("5: of any number of rows", EdgesOfSlotsTest::ranksCountAllShapes);
        Checks.sentence("5: the greater row 0 first, of those with the same one the greater row 1, and so on",
            EdgesOfSlotsTest::ranksInOrder);
        Checks.sentence("6: The slot's shape becomes that with n boxes and this rank", EdgesOfSlotsTest::firstAndLastRanks);
        Checks.sentence("6: IllegalArgumentException when n is not 0 .. 24", EdgesOfSlotsTest::noSuchNumberOfBoxes);
        Checks.sentence("6: NoSuchElementException when there is none", EdgesOfSlotsTest::noSuchRank);
        Checks.sentence("6: or rank is below 0", EdgesOfSlotsTest::rankBelowNought);
        Checks.sentence("6: UnsupportedOperationException when it has more than 8 rows", EdgesOfSlotsTest::tooManyRows);
    }

    private static int[] rowsOf(int length, int count) {
        int[] lengths = new int[count];
        Arrays.fill(lengths, length);
        return lengths;
    }

    private static int[] with(int[] lengths, int row, int length) {
        int[] changed = Arrays.copyOf(lengths, Math.max(lengths.length, row + 1));
        changed[row] = length;
        return changed;
    }

    private static String text(int... lengths) {
        return Arrays.toString(lengths).replaceAll("[\\[\\],]", "");
    }

    private static void taken(int... lengths) {
        TableauBench x = new TableauBench();
        Checks.same("shape " + text(lengths), x.shape(2, Checks.packed(lengths)), true);
        Checks.same("the slot then", Checks.shape(x, 2), text(lengths));
    }

    /** In an empty slot and in one with a shape. */
    private static void notTaken(int... lengths) {
        TableauBench x = new TableauBench();
        Checks.setShape(x, 1, 5, 4, 1, 1, 1, 1, 1, 1);
        Checks.same("shape " + text(lengths), x.shape(0, Checks.packed(lengths)), false);
        Checks.same("the empty slot then", Checks.shape(x, 0), "");
        Checks.same("shape " + text(lengths), x.shape(1, Checks.packed(lengths)), false);
        Checks.same("the slot then", Checks.shape(x, 1), "5 4 1 1 1 1 1 1");
        Checks.same("its rank then", x.rank(1), rankOf(5, 4, 1, 1, 1, 1, 1, 1));
    }

    private static int rankOf(Integer... lengths) {
        int sum = 0;
        for (int length : lengths) {
            sum += length;
        }
        return new PlainBench().shapesOf(sum).indexOf(List.of(lengths));
    }

    private static void notMoreThanBefore() {
        for (int i = 1; i < 8; i++) {
            taken(rowsOf(2, i + 1));
            taken(with(rowsOf(2, i), i, 1));
            notTaken(with(rowsOf(2, i), i, 3));
            notTaken(with(rowsOf(1, 8), i, 2));
            notTaken(with(rowsOf(2, 8), i - 1, 1));
        }
    }

    private static void noGaps() {
        for (int i = 1; i < 8; i++) {
            notTaken(with(new int[0], i, 1));
            notTaken(with(rowsOf(2, 8), i - 1, 0));
            notTaken(with(rowsOf(1, i), Math.min(i + 1, 7), i < 7 ? 1 : 2));
        }
        taken(1);
        taken(7, 1);
    }

    private static void fourSlots() {
        TableauBench x = new TableauBench();
        String[] due = {"4 1", "3", "2 2 2", "1 1 1 1 1 1 1 1"};
        Checks.setShape(x, 3, 1, 1, 1, 1, 1, 1, 1, 1);
        Checks.setShape(x, 0, 4, 1);
        Checks.setShape(x, 2, 2, 2, 2);
        Checks.setShape(x, 1, 3);
        for (int s = 0; s < 4; s++) {
            Checks.same("slot " + s, Checks.shape(x, s), due[s]);
        }
        Checks.same("conjugate 2", x.conjugate(2), true);
        x.unrank(1, 5, 6);
        String[] then = {"4 1", "1 1 1 1 1", "3 3", "1 1 1 1 1 1 1 1"};
        for (int s = 0; s < 4; s++) {
            Checks.same("slot " + s + " then", Checks.shape(x, s), then[s]);
        }
        Checks.fails("slot 4", IndexOutOfBoundsException.class, () -> x.row(4, 0));
        Checks.fails("slot -1", IndexOutOfBoundsException.class, () -> x.row(-1, 0));
    }

    private static void mostBoxes() {
        for (int rows = 1; rows <= 8; rows++) {
            int[] full = rowsOf(24 / rows, rows);
            full[0] += 24 - 24 / rows * rows;
            taken(full);
            notTaken(with(full, 0, full[0] + 1));
        }
        TableauBench x = new TableauBench();
        x.unrank(0, 24, 0);
        Checks.same("24 boxes by rank", Checks.shape(x, 0), "24");
        Checks.fails("25 boxes by rank", ARGUMENT, () -> x.unrank(0, 25, 0));
    }

    private static void mostRows() {
        taken(3, 3, 3, 3, 3, 3, 3, 3);
        taken(17, 1, 1, 1, 1, 1, 1, 1);
        TableauBench x = new TableauBench();
        Checks.setShape(x, 0, 8, 1);
        Checks.same("a row of 8 turned", x.conjugate(0), true);
        Checks.same("eight rows", Checks.shape(x, 0), "2 1 1 1 1 1 1 1");
        Checks.setShape(x, 1, 9, 1);
        Checks.same("a row of 9 turned", x.conjugate(1), false);
        Checks.same("it stays", Checks.shape(x, 1), "9 1");
        x.unrank(1, 8, 21);
        Checks.same("eight rows by rank", Checks.shape(x, 1), "1 1 1 1 1 1 1 1");
        Checks.fails("nine rows by rank", OPERATION, () -> x.unrank(1, 9, 29));
        Checks.same("it stays", Checks.shape(x, 1), "1 1 1 1 1 1 1 1");
    }

    private static void withoutBoxes() {
        TableauBench x = new TableauBench();
        for (int s = 0; s < 4; s++) {
            for (int i = 0; i < 8; i++) {
                Checks.same("row " + i + " of slot " + s, x.row(s, i), 0);
            }
            Checks.same("its rank", x.rank(s), 0);
            Checks.same("its standard tableaux", x.standard(s), 1);
            Checks.same("its conjugate", x.conjugate(s), true);
            Checks.same("the slot then", Checks.shape(x, s), "");
        }
    }

    private static void newObject() {
        TableauBench x = new TableauBench();
        for (int w = 0; w < 2; w++) {
            int word = w;
            Checks.same("length of word " + w, x.length(w), 0);
            Checks.same("its letter 0", x.at(w, 0), 0);
            Checks.same("its letter 15", x.at(w, 15), 0);
            Checks.fails("recover " + w, IllegalStateException.class, () -> x.recover(word));
            x.read(w);
            Checks.same("the reading of P", x.length(w), 0);
        }
        for (int r = 0; r < 16; r++) {
            for (int c = 0; c < 8; c++) {
                Checks.same("P at " + r + ", " + c, x.entry(false, r, c), 0);
                Checks.same("Q at " + r + ", " + c, x.entry(true, r, c), 0);
            }
        }
        Checks.same("equivalent", x.equivalent(), true);
        x.turn();
        Checks.same("P turned", Checks.p(x), "");
        withoutBoxes();
    }

    private static void bytesInOrder() {
        TableauBench x = new TableauBench();
        Checks.same("08 06 04 02 01 01 01 01 from below", x.shape(0, 0x0101010102040608L), true);
        int[] due = {8, 6, 4, 2, 1, 1, 1, 1};
        for (int i = 0; i < 8; i++) {
            Checks.same("row " + i, x.row(0, i), due[i]);
        }
        Checks.same("and from above", x.shape(0, 0x0806040201010101L), false);
        Checks.same("1", x.shape(1, 1L), true);
        Checks.same("row 0", x.row(1, 0), 1);
        Checks.same("1 in the highest byte", x.shape(1, 1L << 56), false);
        Checks.same("0", x.shape(1, 0L), true);
        Checks.same("no boxes then", Checks.shape(x, 1), "");
    }

    private static void noShape() {
        notTaken(1, 2);
        notTaken(0, 1);
        notTaken(23, 0, 1);
        notTaken(2, 1, 1, 1, 1, 1, 1, 2);
        notTaken(3, 2, 3);
        notTaken(12, 0, 12);
    }

    /** Bytes from 128 on would be below 0, and so not more than the one before, if they had a sign. */
    private static void bytesWithoutSign() {
        int[] great = {25, 127, 128, 129, 200, 232, 254, 255};
        for (int byteOf : great) {
            notTaken(byteOf);
            for (int i = 1; i < 8; i++) {
                notTaken(with(rowsOf(3, i), i, byteOf));
            }
        }
        notTaken(24, 255);
        notTaken(24, 255, 254, 253, 252, 251, 250, 249);
        notTaken(255, 255, 255, 255, 255, 255, 255, 255);
        notTaken(128, 128);
    }

    /** Sums that would be small again, if a byte held them, among them. */
    private static void tooManyBoxes() {
        notTaken(25);
        notTaken(24, 1);
        notTaken(13, 12);
        notTaken(12, 12, 1);
        notTaken(4, 3, 3, 3, 3, 3, 3, 3);
        notTaken(4, 4, 4, 4, 4, 4, 4, 4);
        notTaken(18, 1, 1, 1, 1, 1, 1, 1);
        notTaken(255, 1);
        notTaken(128, 128);
        notTaken(64, 64, 64, 64);
        notTaken(32, 32, 32, 32, 32, 32, 32, 32);
        notTaken(255, 255, 2);
        taken(24);
        taken(23, 1);
        taken(12, 12);
        taken(17, 1, 1, 1, 1, 1, 1, 1);
    }

    private static void rowsBehind() {
        TableauBench x = new TableauBench();
        for (int s = 0; s < 4; s++) {
            Checks.setShape(x, s, 3, 3, 3, 3, 3, 3, 3, 3);
        }
        int[] behind = {8, 9, 15, 16, 24, 31, 32, 64, 255, 256, 1 << 29, 1 << 30, Integer.MAX_VALUE};
        for (int i : behind) {
            for (int s = 0; s < 4; s++) {
                Checks.same("row " + i + " of slot " + s, x.row(s, i), 0);
            }
        }
    }

    private static void rowsBefore() {
        TableauBench x = new TableauBench();
        for (int s = 0; s < 4; s++) {
            Checks.setShape(x, s, 3, 3, 3, 3, 3, 3, 3, 3);
        }
        int[] before = {-1, -2, -7, -8, -9, -16, -64, -256, Integer.MIN_VALUE, Integer.MIN_VALUE + 1};
        for (int i : before) {
            for (int s = 0; s < 4; s++) {
                Checks.same("row " + i + " of slot " + s, x.row(s, i), 0);
            }
        }
    }

    private static void rowsWithin() {
        TableauBench x = new TableauBench();
        Checks.setShape(x, 3, 6, 5, 4, 3, 2, 2, 1, 1);
        int[] due = {6, 5, 4, 3, 2, 2, 1, 1};
        for (int i = 0; i < 8; i++) {
            Checks.same("row " + i, x.row(3, i), due[i]);
        }
        Checks.setShape(x, 3, 24);
        Checks.same("row 0", x.row(3, 0), 24);
        Checks.same("row 1 then", x.row(3, 1), 0);
        Checks.same("row 7 then", x.row(3, 7), 0);
    }

    private static void turned(int[] lengths, String due) {
        TableauBench x = new TableauBench();
        Checks.setShape(x, 0, lengths);
        Checks.same("conjugate " + text(lengths), x.conjugate(0), true);
        Checks.same("it is then", Checks.shape(x, 0), due);
    }

    private static void columns() {
        turned(new int[] {}, "");
        turned(new int[] {1}, "1");
        turned(new int[] {8}, "1 1 1 1 1 1 1 1");
        turned(new int[] {1, 1, 1, 1, 1, 1, 1, 1}, "8");
        turned(new int[] {8, 8, 8}, "3 3 3 3 3 3 3 3");
        turned(new int[] {3, 3, 3, 3, 3, 3, 3, 3}, "8 8 8");
        turned(new int[] {8, 7, 3, 2, 1, 1, 1, 1}, "8 4 3 2 2 2 2 1");
        turned(new int[] {7, 7}, "2 2 2 2 2 2 2");
        turned(new int[] {5, 1}, "2 1 1 1 1");
    }

    private static void tooManyColumns() {
        for (int length = 9; length <= 24; length++) {
            TableauBench x = new TableauBench();
            Checks.setShape(x, 1, length);
            Checks.declines("conjugate " + length, x, () -> x.conjugate(1));
        }
        TableauBench x = new TableauBench();
        Checks.setShape(x, 1, 9, 8, 7);
        Checks.declines("conjugate 9 8 7", x, () -> x.conjugate(1));
        Checks.setShape(x, 1, 9, 1, 1, 1, 1, 1, 1, 1);
        Checks.declines("conjugate 9 and seven of 1", x, () -> x.conjugate(1));
        Checks.setShape(x, 1, 8, 8, 8);
        Checks.same("conjugate 8 8 8", x.conjugate(1), true);
        Checks.setShape(x, 1, 8, 1, 1, 1, 1, 1, 1, 1);
        Checks.same("conjugate 8 and seven of 1", x.conjugate(1), true);
    }

    private static void ranked(int due, int... lengths) {
        TableauBench x = new TableauBench();
        Checks.setShape(x, 3, lengths);
        Checks.same("rank of " + text(lengths), x.rank(3), due);
    }

    /** Of 9 boxes, 1 1 1 1 1 1 1 1 1 is the only shape that has more than 8 rows, and is the last one. */
    private static void ranksCountAllShapes() {
        ranked(28, 2, 1, 1, 1, 1, 1, 1, 1);
        ranked(35, 3, 1, 1, 1, 1, 1, 1, 1);
        ranked(39, 2, 2, 1, 1, 1, 1, 1, 1);
        // Of 11 boxes, 3 1 1 1 1 1 1 1 1 is between these two, and has nine rows.
        ranked(48, 3, 2, 1, 1, 1, 1, 1, 1);
        ranked(50, 2, 2, 2, 2, 2, 1);
        ranked(1575 - 61, 3, 3, 3, 3, 3, 3, 3, 3);
        ranked(rankOf(12, 12), 12, 12);
        ranked(rankOf(4, 4, 4, 4, 4, 4), 4, 4, 4, 4, 4, 4);
    }

    private static void ranksInOrder() {
        ranked(0);
        for (int n = 1; n <= 24; n++) {
            ranked(0, n);
        }
        for (int n = 2; n <= 24; n++) {
            ranked(1, n - 1, 1);
        }
        for (int n = 1; n <= 8; n++) {
            ranked(HOW_MANY[n] - 1, rowsOf(1, n));
        }
        String[] sixes = {"6", "5 1", "4 2", "4 1 1", "3 3", "3 2 1", "3 1 1 1", "2 2 2", "2 2 1 1", "2 1 1 1 1", "1 1 1 1 1 1"};
        for (int i = 0; i < sixes.length; i++) {
            ranked(i, Arrays.stream(sixes[i].split(" ")).mapToInt(Integer::parseInt).toArray());
        }
    }

    private static void firstAndLastRanks() {
        for (int n = 0; n <= 24; n++) {
            TableauBench x = new TableauBench();
            Checks.setShape(x, 0, 5, 4, 3);
            x.unrank(0, n, 0);
            Checks.same("the first of " + n, Checks.shape(x, 0), n == 0 ? "" : text(n));
            if (n >= 1 && n <= 8) {
                x.unrank(0, n, HOW_MANY[n] - 1);
                Checks.same("the last of " + n, Checks.shape(x, 0), text(rowsOf(1, n)));
            }
        }
        TableauBench x = new TableauBench();
        x.unrank(3, 9, 28);
        Checks.same("the last but one of 9", Checks.shape(x, 3), "2 1 1 1 1 1 1 1");
        x.unrank(3, 24, 1575 - 61);
        Checks.same("eight threes", Checks.shape(x, 3), "3 3 3 3 3 3 3 3");
    }

    private static void noSuchNumberOfBoxes() {
        int[] none = {-1, 25, 26, -24, 48, 256, 256 + 3, Integer.MIN_VALUE, Integer.MAX_VALUE};
        int[] ranks = {0, 1, -1, 2000, Integer.MIN_VALUE, Integer.MAX_VALUE};
        for (int n : none) {
            for (int rank : ranks) {
                TableauBench x = new TableauBench();
                Checks.setShape(x, 1, 2, 1);
                Checks.refuses("unrank " + n + ", " + rank, x, ARGUMENT, () -> x.unrank(1, n, rank));
            }
        }
        TableauBench x = new TableauBench();
        x.unrank(1, 24, 1);
        Checks.same("24 boxes", Checks.shape(x, 1), "23 1");
        x.unrank(1, 0, 0);
        Checks.same("0 boxes", Checks.shape(x, 1), "");
    }

    private static void noSuchRank() {
        for (int n = 0; n <= 24; n++) {
            int[] none = {HOW_MANY[n], HOW_MANY[n] + 1, 2 * HOW_MANY[n], 100000, Integer.MAX_VALUE};
            for (int rank : none) {
                TableauBench x = new TableauBench();
                Checks.setShape(x, 2, 2, 1);
                int size = n;
                Checks.refuses("unrank " + n + ", " + rank, x, ELEMENT, () -> x.unrank(2, size, rank));
            }
        }
    }

    private static void rankBelowNought() {
        for (int n = 0; n <= 24; n++) {
            int[] below = {-1, -HOW_MANY[n], -100000, Integer.MIN_VALUE};
            for (int rank : below) {
                TableauBench x = new TableauBench();
                Checks.setShape(x, 2, 2, 1);
                int size = n;
                Checks.refuses("unrank " + n + ", " + rank, x, ELEMENT, () -> x.unrank(2, size, rank));
            }
        }
    }

    /** Every shape of 9 rows is refused, every one of 8 rows is taken. */
    private static void tooManyRows() {
        for (int n = 8; n <= 24; n++) {
            List<List<Integer>> shapes = new PlainBench().shapesOf(n);
            for (int i = 0; i < shapes.size(); i++) {
                int size = n;
                int rank = i;
                int rows = shapes.get(i).size();
                TableauBench x = new TableauBench();
                Checks.setShape(x, 2, 7, 7, 7, 2, 1);
                if (rows >= 9) {
                    Checks.fails("unrank " + n + ", " + i, OPERATION, () -> x.unrank(2, size, rank));
                    Checks.same("the slot then", Checks.shape(x, 2), "7 7 7 2 1");
                } else if (rows == 8) {
                    x.unrank(2, n, i);
                    Checks.same("row 7 of " + n + ", " + i, x.row(2, 7), shapes.get(i).get(7));
                }
            }
        }
    }
}
