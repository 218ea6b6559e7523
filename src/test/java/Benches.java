/** Benches in states that several tests begin with: every slot, both words, P, and in one of them Q, hold something. */
final class Benches {
    static final int[] WORD = {3, 1, 2, 2, 1, 4, 1};
    static final int NINE_BOXES = 0;
    static final int TWO_BOXES = 1;
    static final int ROW_OF_NINE = 2;
    static final int FULL_SLOT = 3;
    static final int SEVEN_LETTERS = 0;
    static final int FULL_WORD = 1;

    private Benches() {
    }

    /** With Q, and a P of 7 boxes that is not standard. */
    static TableauBench inserted() {
        TableauBench x = filled();
        x.insert(SEVEN_LETTERS, false);
        return x;
    }

    /** With Q away, after it has been there, and a standard P of 24 boxes. */
    static TableauBench drawn() {
        TableauBench x = inserted();
        x.draw(FULL_SLOT, 20261118);
        return x;
    }

    private static TableauBench filled() {
        TableauBench x = new TableauBench();
        x.shape(NINE_BOXES, Checks.packed(4, 3, 2));
        x.shape(TWO_BOXES, Checks.packed(2));
        x.shape(ROW_OF_NINE, Checks.packed(9));
        x.shape(FULL_SLOT, Checks.packed(3, 3, 3, 3, 3, 3, 3, 3));
        for (int v : WORD) {
            x.letter(SEVEN_LETTERS, v);
        }
        for (int v = 16; v >= 1; v--) {
            x.letter(FULL_WORD, v);
        }
        return x;
    }
}
