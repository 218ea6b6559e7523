/** Benches in states that several tests begin with: every slot, both words, P, and in one of them Q, hold something. */
final class Benches {
    static final int[] WORD = {3, 1, 2, 2, 1, 4, 1};
    static final int NINE_BOXES = 0;
    static final int TWO_BOXES = 1;
    static final int ROW_OF_NINE = 2;
    static final int FULL_SLOT = 3;
    static final int SEVEN_LETTERS = 0;
    static final int FULL_WORD = 1;

    private Benches() {
    }

    /** With Q, and a P of 7 boxes that is not standard. */
    static TableauBench inserted() {
        TableauBench x = filled();
        x.insert(SEVEN_LETTERS, false);
        return x;
    }

    /** With Q away, after it has been there, and a standard P of 24 boxes. */
    static TableauBench drawn() {
        TableauBench x = inserted();
        x.draw(FULL_SLOT, 20261118);
        return x;
    }

    /**
     * As new for all that can be seen, but after calls that went through every box that there can be: what they left
     * behind inside must not be seen.
     */
    static TableauBench used() {
        TableauBench x = new TableauBench();
        for (int v = 16; v >= 1; v--) {
            x.letter(0, v);
            x.letter(1, 17 - v);
        }
        for (long w : new long[] {24, Checks.packed(3, 3, 3, 3, 3, 3, 3, 3), Checks.packed(16)}) {
            x.shape(0, w);
            x.draw(0, 20261118);
            x.turn();
            x.coefficient(0, 1, 0);
            x.standard(0);
        }
        x.fillings(0, 0);
        for (int word = 0; word < 2; word++) {
            x.insert(word, false);
            x.recover(word);
        }
        x.equivalent();
        x.cut(0, 0);
        x.cut(1, 0);
        x.shape(0, 0);
        x.insert(0, false);
        x.turn();
        return x;
    }

    private static TableauBench filled() {
        TableauBench x = new TableauBench();
        x.shape(NINE_BOXES, Checks.packed(4, 3, 2));
        x.shape(TWO_BOXES, Checks.packed(2));
        x.shape(ROW_OF_NINE, Checks.packed(9));
        x.shape(FULL_SLOT, Checks.packed(3, 3, 3, 3, 3, 3, 3, 3));
        for (int v : WORD) {
            x.letter(SEVEN_LETTERS, v);
        }
        for (int v = 16; v >= 1; v--) {
            x.letter(FULL_WORD, v);
        }
        return x;
    }
}
