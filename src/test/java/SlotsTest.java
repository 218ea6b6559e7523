import java.util.List;
import java.util.NoSuchElementException;

/** Promises 1 to 6: a new object, shape, row, conjugate, rank, unrank. */
public final class SlotsTest {
    private static final long ODD = 0x00_00_00_00_00_01_02_01L;

    private SlotsTest() {
    }

    public static void main(String[] args) {
        newObject();
        shapesThatAreTaken();
        shapesThatAreRefused();
        rows();
        conjugates();
        conjugateRefused();
        ranks();
        unranks();
        unrankRefused();
        Checks.finish();
    }

    private static void newObject() {
        TableauBench x = new TableauBench();
        Checks.same("a new object", Checks.all(x), "slot ; slot ; slot ; slot ; word ; word ; P ; Q ");
        Checks.refuses("recover with Q away", x, IllegalStateException.class, () -> x.recover(0));
        TableauBench y = new TableauBench();
        Checks.setShape(y, 1, 2, 1);
        Checks.same("another object's slot", Checks.shape(x, 1), "");
    }

    private static void shapesThatAreTaken() {
        TableauBench x = new TableauBench();
        Checks.setShape(x, 0, 4, 2, 1);
        Checks.same("4 2 1", Checks.shape(x, 0), "4 2 1");
        Checks.setShape(x, 1, 24);
        Checks.same("24", Checks.shape(x, 1), "24");
        Checks.setShape(x, 2, 3, 3, 3, 3, 3, 3, 3, 3);
        Checks.same("eight rows", Checks.shape(x, 2), "3 3 3 3 3 3 3 3");
        Checks.setShape(x, 3, 10, 6, 3, 1, 1, 1, 1, 1);
        Checks.same("24 boxes", Checks.shape(x, 3), "10 6 3 1 1 1 1 1");
        Checks.same("the others stay", Checks.shape(x, 0), "4 2 1");
        Checks.setShape(x, 3, 1, 1);
        Checks.same("a smaller one", Checks.shape(x, 3), "1 1");
        Checks.setShape(x, 3);
        Checks.same("none", Checks.shape(x, 3), "");
    }

    private static void shapesThatAreRefused() {
        TableauBench x = new TableauBench();
        Checks.setShape(x, 0, 4, 2, 1);
        long[] none = {
            ODD, Checks.packed(25), Checks.packed(12, 12, 1), Checks.packed(0, 1), Checks.packed(3, 0, 1),
            Checks.packed(255), -1L, Long.MIN_VALUE, Checks.packed(4, 3, 3, 3, 3, 3, 3, 3),
            Checks.packed(1, 1, 1, 1, 1, 1, 1, 2), Checks.packed(128), Checks.packed(129, 128),
            Checks.packed(2, 200), 1L << 56, 256L,
        };
        for (long w : none) {
            Checks.same("shape " + w, x.shape(0, w), false);
            Checks.same("the shape after " + w, Checks.shape(x, 0), "4 2 1");
        }
        Checks.noSlot("shape", () -> x.shape(4, 0), () -> x.shape(-1, 0), () -> x.shape(4, ODD),
            () -> x.shape(Integer.MAX_VALUE, 1), () -> x.shape(Integer.MIN_VALUE, 1));
    }

    private static void rows() {
        TableauBench x = new TableauBench();
        Checks.setShape(x, 2, 8, 7, 3, 2, 1, 1, 1, 1);
        int[] due = {8, 7, 3, 2, 1, 1, 1, 1};
        for (int i = 0; i < due.length; i++) {
            Checks.same("row " + i, x.row(2, i), due[i]);
        }
        int[] outside = {8, 9, -1, 256, Integer.MAX_VALUE, Integer.MIN_VALUE};
        for (int i : outside) {
            Checks.same("row " + i, x.row(2, i), 0);
        }
        Checks.same("row of an empty slot", x.row(3, 0), 0);
        Checks.noSlot("row", () -> x.row(4, 0), () -> x.row(-1, 0), () -> x.row(4, 9), () -> x.row(-1, -1));
    }

    private static void conjugates() {
        TableauBench x = new TableauBench();
        int[][] shapes = {{4, 2, 1}, {8}, {1, 1, 1, 1, 1, 1, 1, 1}, {}, {8, 8, 8}, {3, 3}, {5, 3, 3, 1}, {8, 5, 5, 2, 1, 1, 1, 1}};
        String[] due = {"3 2 1 1", "1 1 1 1 1 1 1 1", "8", "", "3 3 3 3 3 3 3 3", "2 2 2", "4 3 3 1 1", "8 4 3 3 3 1 1 1"};
        for (int i = 0; i < shapes.length; i++) {
            Checks.setShape(x, 1, shapes[i]);
            String before = Checks.shape(x, 1);
            Checks.same("conjugate " + before, x.conjugate(1), true);
            Checks.same("the conjugate of " + before, Checks.shape(x, 1), due[i]);
            Checks.same("conjugate " + due[i], x.conjugate(1), true);
            Checks.same("the conjugate of the conjugate", Checks.shape(x, 1), before);
        }
    }

    private static void conjugateRefused() {
        TableauBench x = new TableauBench();
        Checks.setShape(x, 0, 9);
        Checks.same("conjugate 9", x.conjugate(0), false);
        Checks.same("the shape then", Checks.shape(x, 0), "9");
        Checks.setShape(x, 3, 24);
        Checks.same("conjugate 24", x.conjugate(3), false);
        Checks.same("the shape then", Checks.shape(x, 3), "24");
        Checks.noSlot("conjugate", () -> x.conjugate(4), () -> x.conjugate(-1));
    }

    private static void ranks() {
        TableauBench x = new TableauBench();
        String[] fives = {"5", "4 1", "3 2", "3 1 1", "2 2 1", "2 1 1 1", "1 1 1 1 1"};
        for (int i = 0; i < fives.length; i++) {
            Checks.setShape(x, 0, lengths(fives[i]));
            Checks.same("rank of " + fives[i], x.rank(0), i);
            x.unrank(1, 5, i);
            Checks.same("unrank 5, " + i, Checks.shape(x, 1), fives[i]);
        }
        Checks.same("rank of the shape without boxes", x.rank(2), 0);
        Checks.setShape(x, 2, 1, 1, 1, 1, 1, 1, 1, 1);
        Checks.same("rank of the last of eight", x.rank(2), 21);
        Checks.setShape(x, 2, 24);
        Checks.same("rank of 24", x.rank(2), 0);
        Checks.setShape(x, 2, 23, 1);
        Checks.same("rank of 23 1", x.rank(2), 1);
        // It is the first of the 61 shapes that have no row longer than 3, which come last.
        Checks.setShape(x, 2, 3, 3, 3, 3, 3, 3, 3, 3);
        Checks.same("rank of eight threes", x.rank(2), 1575 - 61);
        Checks.noSlot("rank", () -> x.rank(4), () -> x.rank(-1));
    }

    private static int[] lengths(String text) {
        String[] parts = text.split(" ");
        int[] lengths = new int[parts.length];
        for (int i = 0; i < parts.length; i++) {
            lengths[i] = Integer.parseInt(parts[i]);
        }
        return lengths;
    }

    /** All ranks of all numbers of boxes, against the shapes listed one by one. */
    private static void unranks() {
        int[] howMany = {1, 1, 2, 3, 5, 7, 11, 15, 22, 30, 42, 56, 77, 101, 135, 176, 231, 297, 385, 490, 627, 792,
            1002, 1255, 1575};
        for (int n = 0; n <= 24; n++) {
            PlainBench plain = new PlainBench();
            Checks.same("how many shapes of " + n, plain.shapesOf(n).size(), howMany[n]);
            for (int i = 0; i < howMany[n]; i++) {
                TableauBench x = new TableauBench();
                unrankOne(x, n, i, plain.shapesOf(n).get(i));
            }
            TableauBench x = new TableauBench();
            int size = n;
            Checks.fails("unrank behind the last", NoSuchElementException.class, () -> x.unrank(0, size, howMany[size]));
        }
    }

    private static void unrankOne(TableauBench x, int n, int rank, List<Integer> due) {
        String what = "unrank " + n + ", " + rank;
        if (due.size() > 8) {
            Checks.fails(what, UnsupportedOperationException.class, () -> x.unrank(3, n, rank));
            Checks.same("the slot after " + what, Checks.shape(x, 3), "");
            return;
        }
        x.unrank(3, n, rank);
        Checks.same(what, Checks.shape(x, 3), due.toString().replaceAll("[\\[\\],]", ""));
        Checks.same("rank after " + what, x.rank(3), rank);
    }

    private static void unrankRefused() {
        TableauBench x = new TableauBench();
        Checks.setShape(x, 1, 2, 1);
        Checks.refuses("unrank 25", x, IllegalArgumentException.class, () -> x.unrank(1, 25, 0));
        Checks.refuses("unrank -1", x, IllegalArgumentException.class, () -> x.unrank(1, -1, -1));
        Checks.refuses("unrank least n", x, IllegalArgumentException.class,
            () -> x.unrank(1, Integer.MIN_VALUE, Integer.MAX_VALUE));
        TableauBench y = new TableauBench();
        Checks.refuses("unrank 10, -1", y, NoSuchElementException.class, () -> y.unrank(1, 10, -1));
        Checks.refuses("unrank 10, 42", y, NoSuchElementException.class, () -> y.unrank(1, 10, 42));
        Checks.refuses("unrank 0, 1", y, NoSuchElementException.class, () -> y.unrank(1, 0, 1));
        TableauBench z = new TableauBench();
        Checks.refuses("unrank 24, 1574", z, UnsupportedOperationException.class, () -> z.unrank(1, 24, 1574));
        Checks.refuses("unrank 9, 29", z, UnsupportedOperationException.class, () -> z.unrank(1, 9, 29));
        Checks.refuses("unrank 24, most", z, NoSuchElementException.class,
            () -> z.unrank(1, 24, Integer.MAX_VALUE));
        Checks.noSlot("unrank", () -> x.unrank(4, 25, 0), () -> x.unrank(-1, 5, -1), () -> x.unrank(4, 24, 1574),
            () -> x.unrank(-1, 3, 0));
    }
}
