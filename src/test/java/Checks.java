import java.util.StringJoiner;
import java.util.function.BooleanSupplier;

/**
 * What the tests share: counting wrong answers, and making and showing shapes, words and tableaux. What is
 * shown is asked for once only, for an object answers as promised no more than 512 times.
 */
final class Checks {
    /** A call that may throw. */
    interface Call {
        void run();
    }

    private static final int SLOTS = 4;
    private static final int WORDS = 2;
    private static final int SHAPE_ROWS = 8;

    private static int asked = 0;
    private static int wrong = 0;
    private static String sentence = "";

    private Checks() {
    }

    static void same(String what, long got, long want) {
        asked++;
        if (got != want) {
            tell(what + " answered " + got + ", due is " + want);
        }
    }

    static void same(String what, boolean got, boolean want) {
        asked++;
        if (got != want) {
            tell(what + " answered " + got + ", due is " + want);
        }
    }

    static void same(String what, String got, String want) {
        asked++;
        if (!got.equals(want)) {
            tell(what + " answered " + got + ", due is " + want);
        }
    }

    static void fails(String what, Class<? extends RuntimeException> due, Call call) {
        asked++;
        try {
            call.run();
            tell(what + " threw nothing, due is " + due.getSimpleName());
        } catch (RuntimeException e) {
            if (e.getClass() != due) {
                tell(what + " threw " + e + ", due is " + due.getSimpleName());
            }
        }
    }

    /** The test of one sentence of the document: what is wrong in it is told with the sentence. */
    static void sentence(String words, Call test) {
        sentence = "\"" + words + "\": ";
        try {
            test.run();
        } catch (RuntimeException e) {
            tell("the test ended with " + e);
        }
        sentence = "";
    }

    /** As fails, and the call must leave all that can be seen as it was. */
    static void refuses(String what, TableauBench x, Class<? extends RuntimeException> due, Call call) {
        String before = all(x);
        fails(what, due, call);
        same("what is there after " + what, all(x), before);
    }

    /** A call that must answer false, and leave all that can be seen as it was. */
    static void declines(String what, TableauBench x, BooleanSupplier call) {
        String before = all(x);
        same(what, call.getAsBoolean(), false);
        same("what is there after " + what, all(x), before);
    }

    static void noSlot(String what, Call... calls) {
        for (Call call : calls) {
            fails(what + " with a slot or word that there is none of", IndexOutOfBoundsException.class, call);
        }
    }

    private static void tell(String text) {
        wrong++;
        if (wrong <= 50 || Boolean.getBoolean("tellAll")) {
            System.out.println(sentence + text);
        }
    }

    static void finish() {
        System.out.println(asked + " answers, " + wrong + " not as due");
        if (wrong != 0) {
            System.exit(1);
        }
    }

    static long packed(int... lengths) {
        long w = 0;
        for (int i = 0; i < lengths.length; i++) {
            w |= (long) lengths[i] << (8 * i);
        }
        return w;
    }

    static void setShape(TableauBench x, int slot, int... lengths) {
        same("shape " + slot, x.shape(slot, packed(lengths)), true);
    }

    static void setWord(TableauBench x, int word, int... letters) {
        same("cut " + word, x.cut(word, 0), true);
        for (int v : letters) {
            same("letter " + v, x.letter(word, v), true);
        }
    }

    /** A slot's shape, such as "4 2 1". */
    static String shape(TableauBench x, int slot) {
        StringJoiner text = new StringJoiner(" ");
        int length = x.row(slot, 0);
        for (int i = 1; length != 0; i++) {
            text.add(Integer.toString(length));
            length = i < SHAPE_ROWS ? x.row(slot, i) : 0;
        }
        return text.toString();
    }

    /** A word, such as "3 1 2". */
    static String word(TableauBench x, int word) {
        StringJoiner text = new StringJoiner(" ");
        int length = x.length(word);
        for (int i = 0; i < length; i++) {
            text.add(Integer.toString(x.at(word, i)));
        }
        return text.toString();
    }

    /** P or Q, such as "1 2 / 3"; behind each row and the last one there must be no letter. */
    static String tableau(TableauBench x, boolean q) {
        StringJoiner rows = new StringJoiner(" / ");
        int first = x.entry(q, 0, 0);
        for (int r = 1; first != 0; r++) {
            StringJoiner row = new StringJoiner(" ");
            int letter = first;
            for (int c = 1; letter != 0; c++) {
                row.add(Integer.toString(letter));
                letter = x.entry(q, r - 1, c);
            }
            rows.add(row.toString());
            first = x.entry(q, r, 0);
        }
        return rows.toString();
    }

    static String p(TableauBench x) {
        return tableau(x, false);
    }

    static String q(TableauBench x) {
        return tableau(x, true);
    }

    /** All that can be seen of an object without changing it. */
    static String all(TableauBench x) {
        StringJoiner text = new StringJoiner("; ");
        for (int slot = 0; slot < SLOTS; slot++) {
            text.add("slot " + shape(x, slot));
        }
        for (int word = 0; word < WORDS; word++) {
            text.add("word " + word(x, word));
        }
        return text.add("P " + p(x)).add("Q " + q(x)).toString();
    }
}
