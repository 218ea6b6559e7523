import java.util.LinkedHashMap;
import java.util.List;
import java.util.Map;
import java.util.NoSuchElementException;
import java.util.function.Predicate;
import java.util.function.Supplier;

/** What the document says of all calls: which numbers are refused, which exception comes first, what stays. */
public final class EdgesOfAllCallsTest {
    private static final Class<IndexOutOfBoundsException> INDEX = IndexOutOfBoundsException.class;
    private static final Class<IllegalArgumentException> ARGUMENT = IllegalArgumentException.class;
    private static final Class<IllegalStateException> STATE = IllegalStateException.class;
    private static final Class<NoSuchElementException> ELEMENT = NoSuchElementException.class;
    private static final Class<UnsupportedOperationException> OPERATION = UnsupportedOperationException.class;
    private static final int[] NO_SLOTS = {-1, 4, 5, 7, 8, -4, 256, -256, Integer.MIN_VALUE, Integer.MAX_VALUE};
    private static final int[] NO_WORDS = {-1, 2, 3, 4, -2, 256, -256, Integer.MIN_VALUE, Integer.MAX_VALUE};
    private static final long NO_SHAPE = Checks.packed(1, 2);

    /** A call on a bench. */
    private interface OnBench {
        void run(TableauBench x);
    }

    /** A call on a bench with the number of a slot or a word. */
    private interface WithNumber {
        void run(TableauBench x, int number);
    }

    private EdgesOfAllCallsTest() {
    }

    public static void main(String[] args) {
        Checks.sentence("Numbers of slots that there are none of are refused by all calls that have them",
            EdgesOfAllCallsTest::numbersOfSlots);
        Checks.sentence("Numbers of words that there are none of are refused by all calls that have them",
            EdgesOfAllCallsTest::numbersOfWords);
        Checks.sentence("All numbers of slots and words that there are any of are taken", EdgesOfAllCallsTest::numbersTaken);
        Checks.sentence("where several exceptions that a call names fit, it is the one that it names first (unrank)",
            EdgesOfAllCallsTest::firstOfUnrank);
        Checks.sentence("where several fit, it is the first (recover, read)", EdgesOfAllCallsTest::firstOfRecoverAndRead);
        Checks.sentence("where several fit, it is the first (rectify)", EdgesOfAllCallsTest::firstOfRectify);
        Checks.sentence("where several fit, it is the first (character)", EdgesOfAllCallsTest::firstOfCharacter);
        Checks.sentence("A call that answers false changes nothing", EdgesOfAllCallsTest::falseChangesNothing);
        Checks.sentence("A call that throws changes nothing (slots)", EdgesOfAllCallsTest::throwsOfSlots);
        Checks.sentence("A call that throws changes nothing (tableaux)", EdgesOfAllCallsTest::throwsOfTableaux);
        Checks.sentence("A call that throws changes nothing (Q stays there, though it has no boxes)",
            EdgesOfAllCallsTest::emptyQStays);
        Checks.sentence("A call that throws changes nothing (Q stays away)", EdgesOfAllCallsTest::awayStays);
        Checks.sentence("A call that only answers changes nothing", EdgesOfAllCallsTest::answersChangeNothing);
        Checks.sentence("An object is used for at most 512 calls", EdgesOfAllCallsTest::lastCalls);
        Checks.sentence("No object knows of another one", EdgesOfAllCallsTest::twoObjects);
        Checks.finish();
    }

    private static void throwsInBothStates(String what, Class<? extends RuntimeException> due, OnBench call) {
        TableauBench x = Benches.inserted();
        Checks.refuses(what, x, due, () -> call.run(x));
        TableauBench y = Benches.drawn();
        Checks.refuses(what + ", Q away", y, due, () -> call.run(y));
        Checks.fails("recover after " + what + ", Q away", STATE, () -> y.recover(0));
    }

    private static void refuseAll(int[] numbers, Map<String, WithNumber> calls) {
        for (Map.Entry<String, WithNumber> call : calls.entrySet()) {
            for (int n : numbers) {
                throwsInBothStates(call.getKey() + " with " + n, INDEX, x -> call.getValue().run(x, n));
            }
        }
    }

    private static void numbersOfSlots() {
        Map<String, WithNumber> calls = new LinkedHashMap<>();
        calls.put("shape", (x, n) -> x.shape(n, Checks.packed(2, 1)));
        calls.put("shape of no shape", (x, n) -> x.shape(n, NO_SHAPE));
        calls.put("shape of too many boxes", (x, n) -> x.shape(n, 25));
        calls.put("row", (x, n) -> x.row(n, 0));
        calls.put("row 8", (x, n) -> x.row(n, 8));
        calls.put("row -1", (x, n) -> x.row(n, -1));
        calls.put("conjugate", (x, n) -> x.conjugate(n));
        calls.put("rank", (x, n) -> x.rank(n));
        calls.put("unrank", (x, n) -> x.unrank(n, 3, 0));
        calls.put("inner of rectify", (x, n) -> x.rectify(n, 0, 0, 0));
        calls.put("outer of rectify", (x, n) -> x.rectify(1, n, 0, 0));
        calls.put("draw", (x, n) -> x.draw(n, 1));
        calls.put("standard", (x, n) -> x.standard(n));
        calls.put("fillings", (x, n) -> x.fillings(n, 0));
        calls.put("fillings, another number of letters", (x, n) -> x.fillings(n, 1));
        calls.put("a of coefficient", (x, n) -> x.coefficient(n, 0, 0));
        calls.put("b of coefficient", (x, n) -> x.coefficient(0, n, 0));
        calls.put("c of coefficient", (x, n) -> x.coefficient(0, 0, n));
        calls.put("b of coefficient, a not within c", (x, n) -> x.coefficient(0, n, 1));
        calls.put("slot of character", (x, n) -> x.character(n, 0));
        calls.put("type of character", (x, n) -> x.character(0, n));
        calls.put("both of character", (x, n) -> x.character(n, n));
        refuseAll(NO_SLOTS, calls);
    }

    private static void numbersOfWords() {
        Map<String, WithNumber> calls = new LinkedHashMap<>();
        calls.put("letter", (x, n) -> x.letter(n, 1));
        calls.put("letter that is none", (x, n) -> x.letter(n, 0));
        calls.put("letter that is none, too", (x, n) -> x.letter(n, 17));
        calls.put("cut", (x, n) -> x.cut(n, 0));
        calls.put("cut -1", (x, n) -> x.cut(n, -1));
        calls.put("cut 17", (x, n) -> x.cut(n, 17));
        calls.put("length", (x, n) -> x.length(n));
        calls.put("at", (x, n) -> x.at(n, 0));
        calls.put("at -1", (x, n) -> x.at(n, -1));
        calls.put("at 16", (x, n) -> x.at(n, 16));
        calls.put("insert by rows", (x, n) -> x.insert(n, false));
        calls.put("insert by columns", (x, n) -> x.insert(n, true));
        calls.put("recover", (x, n) -> x.recover(n));
        calls.put("read", (x, n) -> x.read(n));
        calls.put("word of rectify", (x, n) -> x.rectify(1, 0, n, 0));
        calls.put("fillings", (x, n) -> x.fillings(0, n));
        calls.put("fillings, more boxes than letters", (x, n) -> x.fillings(3, n));
        refuseAll(NO_WORDS, calls);
    }

    private static void numbersTaken() {
        for (int s = 0; s < 4; s++) {
            TableauBench x = new TableauBench();
            Checks.setShape(x, s, 2, 1);
            Checks.same("row of slot " + s, x.row(s, 0), 2);
            Checks.same("conjugate " + s, x.conjugate(s), true);
            Checks.same("rank " + s, x.rank(s), 1);
            x.unrank(s, 4, 1);
            Checks.same("unrank " + s, Checks.shape(x, s), "3 1");
            Checks.same("standard " + s, x.standard(s), 3);
            x.draw(s, 7);
            Checks.same("draw " + s, x.entry(false, 0, 0), 1);
            int other = (s + 1) % 4;
            Checks.same("coefficient " + s, x.coefficient(s, other, s), 1);
            Checks.same("coefficient, too, " + s, x.coefficient(other, s, s), 1);
            Checks.same("character " + s, x.character(s, s), 0);
            for (int w = 0; w < 2; w++) {
                Checks.setWord(x, w, 2, 1, 1, 1);
                Checks.same("fillings " + s + " " + w, x.fillings(s, w), 1);
                Checks.same("rectify " + s + " " + w, x.rectify(other, s, w, 0), 0);
                Checks.same("insert " + w, x.insert(w, false), 2);
                x.recover(w);
                Checks.same("recover " + w, Checks.word(x, w), "2 1 1 1");
                x.read(w);
                Checks.same("read " + w, Checks.word(x, w), "2 1 1 1");
            }
        }
    }

    private static void firstOfUnrank() {
        throwsInBothStates("slot and n", INDEX, x -> x.unrank(4, 25, 0));
        throwsInBothStates("slot, n and rank", INDEX, x -> x.unrank(-1, -1, -1));
        throwsInBothStates("slot and rank", INDEX, x -> x.unrank(4, 3, 3));
        throwsInBothStates("slot and rows", INDEX, x -> x.unrank(4, 9, 29));
        throwsInBothStates("n too great, and rank below 0", ARGUMENT, x -> x.unrank(0, 25, -1));
        throwsInBothStates("n below 0, and rank below 0", ARGUMENT, x -> x.unrank(0, -1, -1));
        throwsInBothStates("n below 0, and no such rank", ARGUMENT, x -> x.unrank(0, -1, 0));
        throwsInBothStates("n too great, and no such rank", ARGUMENT, x -> x.unrank(0, 25, 1958));
        throwsInBothStates("n and rank the greatest", ARGUMENT, x -> x.unrank(0, Integer.MAX_VALUE, Integer.MAX_VALUE));
        throwsInBothStates("n too great, and too many rows", ARGUMENT, x -> x.unrank(0, 25, 1957));
        throwsInBothStates("no such rank, of boxes that may have too many rows", ELEMENT, x -> x.unrank(0, 24, 1575));
    }

    private static void firstOfRecoverAndRead() {
        for (int n : NO_WORDS) {
            TableauBench away = new TableauBench();
            Checks.refuses("recover " + n + ", Q away at first", away, INDEX, () -> away.recover(n));
            TableauBench x = Benches.drawn();
            Checks.refuses("recover " + n + ", Q away", x, INDEX, () -> x.recover(n));
            TableauBench y = Benches.drawn();
            Checks.refuses("read " + n + " of 24 boxes", y, INDEX, () -> y.read(n));
        }
    }

    private static void firstOfRectify() {
        throwsInBothStates("inner and order", INDEX, x -> x.rectify(4, 0, 0, 3));
        throwsInBothStates("outer and order", INDEX, x -> x.rectify(1, -1, 0, -1));
        throwsInBothStates("word and order", INDEX, x -> x.rectify(1, 0, 2, 3));
        throwsInBothStates("word, and outer without inner", INDEX, x -> x.rectify(0, 1, -1, 0));
        throwsInBothStates("inner, and another number of letters", INDEX, x -> x.rectify(-1, 0, 1, 0));
        throwsInBothStates("outer, and another number of letters", INDEX, x -> x.rectify(1, 4, 1, 0));
        throwsInBothStates("all numbers", INDEX, x -> x.rectify(4, 4, 2, 3));
        throwsInBothStates("order, and outer without inner", ARGUMENT, x -> x.rectify(0, 1, 0, 3));
        throwsInBothStates("order, and another number of letters", ARGUMENT, x -> x.rectify(1, 0, 1, 3));
        throwsInBothStates("order below 0, and another number of letters", ARGUMENT, x -> x.rectify(1, 0, 1, -1));
        throwsInBothStates("order, and not column-strict", ARGUMENT, x -> x.rectify(1, 0, 0, 3));
        throwsInBothStates("order below 0, and not column-strict", ARGUMENT, x -> x.rectify(1, 0, 0, -1));
        throwsInBothStates("outer without inner, and another number of letters", ARGUMENT, x -> x.rectify(0, 1, 1, 0));
        throwsInBothStates("another number of letters, and not column-strict", STATE, x -> x.rectify(1, 0, 1, 0));
        throwsInBothStates("more letters, and not column-strict", STATE, x -> x.rectify(2, 2, 0, 0));
    }

    private static void firstOfCharacter() {
        throwsInBothStates("slot, and other boxes", INDEX, x -> x.character(4, 1));
        throwsInBothStates("slot, and too many boxes", INDEX, x -> x.character(-1, 3));
        throwsInBothStates("type, and too many boxes", INDEX, x -> x.character(3, 4));
        throwsInBothStates("other boxes, and the slot too many", STATE, x -> x.character(3, 0));
        throwsInBothStates("other boxes, and the type too many", STATE, x -> x.character(0, 3));
        TableauBench x = new TableauBench();
        Checks.setShape(x, 0, 15);
        Checks.setShape(x, 1, 8, 8);
        Checks.setShape(x, 2, 14);
        Checks.fails("15 at 16, both too many", STATE, () -> x.character(0, 1));
        Checks.fails("16 at 15, both too many", STATE, () -> x.character(1, 0));
        Checks.fails("15 at 14", STATE, () -> x.character(0, 2));
        Checks.fails("14 at 15", STATE, () -> x.character(2, 0));
        Checks.fails("15 at none", STATE, () -> x.character(0, 3));
        Checks.fails("15 at 15", OPERATION, () -> x.character(0, 0));
    }

    private static void answersFalse(String what, Predicate<TableauBench> call) {
        TableauBench x = Benches.inserted();
        Checks.declines(what, x, () -> call.test(x));
        TableauBench y = Benches.drawn();
        Checks.declines(what + ", Q away", y, () -> call.test(y));
        Checks.fails("recover after " + what + ", Q away", STATE, () -> y.recover(0));
    }

    private static void falseChangesNothing() {
        for (int s = 0; s < 4; s++) {
            int slot = s;
            answersFalse("shape of a longer row", x -> x.shape(slot, Checks.packed(3, 2, 2, 2, 2, 2, 1, 2)));
            answersFalse("shape of 25 boxes", x -> x.shape(slot, Checks.packed(4, 3, 3, 3, 3, 3, 3, 3)));
            answersFalse("shape of 255 boxes", x -> x.shape(slot, 255));
        }
        answersFalse("conjugate", x -> x.conjugate(Benches.ROW_OF_NINE));
        answersFalse("letter 0", x -> x.letter(Benches.SEVEN_LETTERS, 0));
        answersFalse("letter 17", x -> x.letter(Benches.SEVEN_LETTERS, 17));
        answersFalse("letter 17 of 16", x -> x.letter(Benches.FULL_WORD, 7));
        answersFalse("cut -1", x -> x.cut(Benches.SEVEN_LETTERS, -1));
        answersFalse("cut 8 of 7", x -> x.cut(Benches.SEVEN_LETTERS, 8));
        answersFalse("cut 17 of 16", x -> x.cut(Benches.FULL_WORD, 17));
        answersFalse("cut -1 of 16", x -> x.cut(Benches.FULL_WORD, -1));
        answersFalse("equivalent", TableauBench::equivalent);
    }

    private static void throwsOfSlots() {
        for (int s = 0; s < 4; s++) {
            int slot = s;
            throwsInBothStates("unrank 25", ARGUMENT, x -> x.unrank(slot, 25, 0));
            throwsInBothStates("unrank -1", ARGUMENT, x -> x.unrank(slot, -1, 0));
            throwsInBothStates("unrank 10, 42", ELEMENT, x -> x.unrank(slot, 10, 42));
            throwsInBothStates("unrank 10, -1", ELEMENT, x -> x.unrank(slot, 10, -1));
            throwsInBothStates("unrank 0, 1", ELEMENT, x -> x.unrank(slot, 0, 1));
            throwsInBothStates("unrank 9, 29", OPERATION, x -> x.unrank(slot, 9, 29));
            throwsInBothStates("unrank 24, 1574", OPERATION, x -> x.unrank(slot, 24, 1574));
        }
        throwsInBothStates("character of other boxes", STATE, x -> x.character(0, 1));
        throwsInBothStates("character of 24 boxes", OPERATION, x -> x.character(3, 3));
    }

    private static void throwsOfTableaux() {
        for (int o = 0; o <= 2; o++) {
            int order = o;
            throwsInBothStates("rectify, outer without inner", ARGUMENT, x -> x.rectify(0, 1, 0, order));
            throwsInBothStates("rectify, too many letters", STATE, x -> x.rectify(1, 0, 1, order));
            throwsInBothStates("rectify, too few letters", STATE, x -> x.rectify(1, 3, 0, order));
            throwsInBothStates("rectify, not column-strict", OPERATION, x -> x.rectify(1, 0, 0, order));
            throwsInBothStates("rectify, not column-strict in one row", OPERATION, x -> x.rectify(1, 2, 0, order));
        }
        throwsInBothStates("rectify, order 3", ARGUMENT, x -> x.rectify(1, 0, 0, 3));
        throwsInBothStates("rectify, order -1", ARGUMENT, x -> x.rectify(1, 0, 0, -1));
        TableauBench x = Benches.inserted();
        Checks.refuses("turn", x, STATE, x::turn);
        x.recover(1);
        Checks.same("what is recovered after turn was refused", Checks.word(x, 1), "3 1 2 2 1 4 1");
        for (int w = 0; w < 2; w++) {
            int word = w;
            TableauBench y = Benches.drawn();
            Checks.refuses("recover", y, STATE, () -> y.recover(word));
            TableauBench z = Benches.drawn();
            Checks.refuses("read", z, STATE, () -> z.read(word));
        }
    }

    private static void emptyQStays() {
        Map<String, OnBench> calls = new LinkedHashMap<>();
        calls.put("rectify, order 3", x -> x.rectify(2, 3, 0, 3));
        calls.put("rectify, outer without inner", x -> x.rectify(0, 3, 0, 0));
        calls.put("rectify, too few letters", x -> x.rectify(2, 0, 0, 0));
        calls.put("rectify, not column-strict", x -> x.rectify(2, 0, 1, 0));
        calls.put("draw", x -> x.draw(4, 0));
        calls.put("insert", x -> x.insert(2, false));
        for (Map.Entry<String, OnBench> call : calls.entrySet()) {
            TableauBench x = new TableauBench();
            Checks.setShape(x, 0, 2);
            Checks.setWord(x, 1, 2, 1);
            x.insert(0, false);
            try {
                call.getValue().run(x);
                Checks.same(call.getKey() + " threw", false, true);
            } catch (RuntimeException e) {
                x.recover(1);
            }
            Checks.same("recovered after " + call.getKey(), Checks.word(x, 1), "");
        }
    }

    private static void awayStays() {
        TableauBench x = new TableauBench();
        Checks.setShape(x, 0, 17);
        Checks.setWord(x, 0, 2, 1);
        Checks.fails("insert 2", INDEX, () -> x.insert(2, false));
        Checks.fails("recover", STATE, () -> x.recover(0));
        Checks.fails("insert -1 by columns", INDEX, () -> x.insert(-1, true));
        Checks.fails("recover", STATE, () -> x.recover(0));
        x.draw(0, 3);
        Checks.fails("read", STATE, () -> x.read(0));
        Checks.fails("recover", STATE, () -> x.recover(0));
        Checks.same("the word", Checks.word(x, 0), "2 1");
    }

    private static void keeps(String what, OnBench call) {
        for (Supplier<TableauBench> state : List.<Supplier<TableauBench>>of(Benches::inserted, Benches::drawn)) {
            TableauBench x = state.get();
            String before = Checks.all(x);
            call.run(x);
            Checks.same("what is there after " + what, Checks.all(x), before);
        }
    }

    private static void answersChangeNothing() {
        for (int s = 0; s < 4; s++) {
            int slot = s;
            keeps("row", x -> x.row(slot, 0));
            keeps("rank", x -> x.rank(slot));
            keeps("standard", x -> x.standard(slot));
            keeps("fillings", x -> x.fillings(slot, 0));
            keeps("fillings", x -> x.fillings(slot, 1));
            keeps("coefficient", x -> x.coefficient(1, slot, 0));
        }
        keeps("coefficient of seven", x -> {
            x.shape(3, 7);
            x.coefficient(1, 3, 0);
            x.coefficient(1, 3, 2);
            x.shape(3, Checks.packed(3, 3, 3, 3, 3, 3, 3, 3));
        });
        keeps("character", x -> x.character(0, 2));
        keeps("character", x -> x.character(2, 0));
        keeps("length", x -> x.length(0));
        keeps("at", x -> x.at(1, 3));
        keeps("entry", x -> x.entry(true, 0, 0));
        keeps("equivalent", TableauBench::equivalent);
        keeps("cut of none", x -> x.cut(1, 16));
        TableauBench y = new TableauBench();
        Checks.setWord(y, 0, 2, 1, 3);
        Checks.setWord(y, 1, 2, 3, 1);
        y.insert(0, true);
        String before = Checks.all(y);
        Checks.same("equivalent", y.equivalent(), true);
        Checks.same("what is there after it", Checks.all(y), before);
        y.recover(0);
        Checks.same("what is recovered after it", Checks.word(y, 0), "1 3 2");
    }

    private static void lastCalls() {
        lastCallsOfMany();
        lastCallsOfSlots();
        lastCallsOfWords();
    }

    private static void lastCallsOfSlots() {
        TableauBench x = new TableauBench();
        for (int i = 0; i < 128; i++) {
            Checks.same("shape", x.shape(i % 4, Checks.packed(2 + i % 20, 1)), true);
            Checks.same("rank", x.rank(i % 4), 1);
            Checks.same("standard", x.standard(i % 4), 2 + i % 20);
            Checks.same("row of another slot", x.row((i + 1) % 4, 0), i < 3 ? 0 : 2 + (i - 3) % 20);
        }
    }

    private static void lastCallsOfWords() {
        TableauBench x = new TableauBench();
        for (int i = 0; i < 128; i++) {
            Checks.same("cut", x.cut(i % 2, 0), true);
            Checks.same("letter", x.letter(i % 2, 1 + i % 16), true);
            Checks.same("insert", x.insert(i % 2, false), 1);
            Checks.same("at of the other word", x.at((i + 1) % 2, 0), i == 0 ? 0 : 1 + (i - 1) % 16);
        }
    }

    /** 506 calls of all kinds, and the six that are left answer as promised. */
    private static void lastCallsOfMany() {
        TableauBench x = new TableauBench();
        x.shape(0, Checks.packed(3, 2, 1));
        x.shape(1, Checks.packed(2, 1));
        for (int i = 0; i < 56; i++) {
            x.unrank(2, 8, i % 21);
            x.letter(1, 1 + i % 16);
            x.draw(2, i);
            x.turn();
            x.standard(2);
            x.insert(1, i % 2 == 0);
            x.recover(0);
            x.coefficient(1, 1, 0);
            x.cut(1, i % 5 == 0 ? 0 : i % 16);
        }
        Checks.same("call 507", x.coefficient(1, 1, 0), 2);
        Checks.same("call 508", x.cut(1, 0), true);
        Checks.same("call 509", x.letter(1, 16), true);
        Checks.same("call 510", x.insert(1, false), 1);
        Checks.same("call 511", x.entry(true, 0, 0), 1);
        Checks.same("call 512", x.standard(0), 16);
    }

    private static void twoObjects() {
        TableauBench x = Benches.inserted();
        TableauBench y = new TableauBench();
        Checks.same("a new object beside another", Checks.all(y), "slot ; slot ; slot ; slot ; word ; word ; P ; Q ");
        String before = Checks.all(x);
        y.shape(0, 5);
        y.letter(0, 9);
        y.insert(0, true);
        y.draw(0, 4);
        y.standard(0);
        Checks.same("an object after another one's calls", Checks.all(x), before);
    }
}
