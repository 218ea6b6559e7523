import java.util.Arrays;
import java.util.NoSuchElementException;

/** A bench for tableaux: insertion, sliding, turning, drawing and counting, as DOC.md promises it. */
public final class TableauBench {
    private static final int SLOTS = 4;
    private static final int WORDS = 2;
    private static final int SHAPE_ROWS = 8;
    private static final int SHAPE_BOXES = 24;
    private static final int WORD_LETTERS = 16;
    private static final int LETTERS = 16;
    private static final int CHARACTER_BOXES = 14;
    private static final int ORDERS = 3;
    private static final int BY_TURNS = 2;

    private final Shape[] slots = new Shape[SLOTS];
    private final Word[] words = new Word[WORDS];
    private final Tableau p = new Tableau();
    private final Tableau q = new Tableau();
    private boolean qAway = true;

    // Rooms that the calls work in, kept so that no call has to make any.
    private final Tableau workTableau = new Tableau();
    private final Tableau otherTableau = new Tableau();
    private final Shape workShape = new Shape();
    private final HookWalk hookWalk = new HookWalk();
    private final ShapeOrder shapeOrder = new ShapeOrder();
    private final StandardCount standardCount = new StandardCount();
    private final FillingCount fillingCount = new FillingCount();
    private final ProductCount productCount = new ProductCount();

    public TableauBench() {
        for (int i = 0; i < SLOTS; i++) {
            slots[i] = new Shape();
        }
        for (int i = 0; i < WORDS; i++) {
            words[i] = new Word();
        }
    }

    public boolean shape(int slot, long w) throws IndexOutOfBoundsException {
        Shape target = slotNumbered(slot);
        workShape.unpack(w);
        if (!workShape.isAllowed()) {
            return false;
        }
        target.copyFrom(workShape);
        return true;
    }

    public int row(int slot, int i) throws IndexOutOfBoundsException {
        return slotNumbered(slot).rowLength(i);
    }

    public boolean conjugate(int slot) throws IndexOutOfBoundsException {
        Shape target = slotNumbered(slot);
        if (target.rowLength(0) > SHAPE_ROWS) {
            return false;
        }
        workShape.copyFrom(target);
        for (int i = 0; i < SHAPE_ROWS; i++) {
            target.lengths[i] = workShape.columnLength(i);
        }
        return true;
    }

    public int rank(int slot) throws IndexOutOfBoundsException {
        return shapeOrder.countBefore(slotNumbered(slot));
    }

    public void unrank(int slot, int n, int rank)
            throws IndexOutOfBoundsException, IllegalArgumentException,
            NoSuchElementException, UnsupportedOperationException {
        Shape target = slotNumbered(slot);
        if (n < 0 || n > SHAPE_BOXES) {
            throw new IllegalArgumentException("no shape here has so many boxes");
        }
        if (rank < 0 || rank >= shapeOrder.countOf(n, n)) {
            throw new NoSuchElementException("no shape has this rank");
        }
        if (!shapeOrder.find(n, rank, workShape)) {
            throw new UnsupportedOperationException("the shape has too many rows");
        }
        target.copyFrom(workShape);
    }

    public boolean letter(int word, int v) throws IndexOutOfBoundsException {
        Word target = wordNumbered(word);
        if (v < 1 || v > LETTERS || target.size >= WORD_LETTERS) {
            return false;
        }
        target.add(v);
        return true;
    }

    public boolean cut(int word, int n) throws IndexOutOfBoundsException {
        Word target = wordNumbered(word);
        if (n < 0 || n > target.size) {
            return false;
        }
        target.size = n;
        return true;
    }

    public int length(int word) throws IndexOutOfBoundsException {
        return wordNumbered(word).size;
    }

    public int at(int word, int i) throws IndexOutOfBoundsException {
        return wordNumbered(word).letterAt(i);
    }

    public int insert(int word, boolean columns) throws IndexOutOfBoundsException {
        Word source = wordNumbered(word);
        p.clear();
        q.clear();
        for (int i = 0; i < source.size; i++) {
            int x = source.letterAt(i);
            int r = columns ? p.addByColumns(x) : p.addByRows(x);
            q.append(r, i + 1);
        }
        qAway = false;
        return p.countRows();
    }

    public int entry(boolean q, int r, int c) {
        if (!q) {
            return p.letterAt(r, c);
        }
        return qAway ? 0 : this.q.letterAt(r, c);
    }

    public void recover(int word) throws IndexOutOfBoundsException, IllegalStateException {
        Word target = wordNumbered(word);
        if (qAway) {
            throw new IllegalStateException("Q is away");
        }
        workTableau.copyFrom(p);
        target.size = Math.min(p.countBoxes(), WORD_LETTERS);
        for (int k = target.size; k >= 1; k--) {
            target.letters[k - 1] = workTableau.takeByRows(rowThatEndsWith(k));
        }
    }

    public void read(int word) throws IndexOutOfBoundsException, IllegalStateException {
        Word target = wordNumbered(word);
        if (p.countBoxes() > WORD_LETTERS || p.greatestLetter() > LETTERS) {
            throw new IllegalStateException("the reading of P is no word");
        }
        target.size = 0;
        for (int r = Tableau.ROWS - 1; r >= 0; r--) {
            for (int c = 0; c < p.lengths[r]; c++) {
                target.add(p.letterAt(r, c));
            }
        }
    }

    public boolean equivalent() {
        workTableau.insertAll(words[0]);
        otherTableau.insertAll(words[1]);
        return workTableau.isSameAs(otherTableau);
    }

    public int rectify(int inner, int outer, int word, int order)
            throws IndexOutOfBoundsException, IllegalArgumentException,
            IllegalStateException, UnsupportedOperationException {
        Shape left = slotNumbered(inner);
        Shape whole = slotNumbered(outer);
        Word source = wordNumbered(word);
        if (order < 0 || order >= ORDERS || !whole.contains(left)) {
            throw new IllegalArgumentException("no such order, or no skew shape");
        }
        if (source.size != whole.countBoxes() - left.countBoxes()) {
            throw new IllegalStateException("the word has not as many letters as the filling boxes");
        }
        workTableau.fillSkew(left, whole, source);
        if (!workTableau.isColumnStrictOutside(left)) {
            throw new UnsupportedOperationException("the filling is not column-strict");
        }
        workShape.copyFrom(left);
        int slides = slideUntilStraight(order);
        p.copyFrom(workTableau);
        qAway = true;
        return slides;
    }

    public void turn() throws IllegalStateException {
        if (!p.isStandard()) {
            throw new IllegalStateException("P is not standard");
        }
        workTableau.copyFrom(p);
        for (int k = p.countBoxes(); k >= 1; k--) {
            int r = workTableau.slideInto(0, 0);
            p.put(r, workTableau.lengths[r], k);
        }
        qAway = true;
    }

    public long draw(int slot, long seed) throws IndexOutOfBoundsException {
        Shape source = slotNumbered(slot);
        p.takeShape(source);
        hookWalk.start(source, seed);
        for (int k = source.countBoxes(); k >= 1; k--) {
            hookWalk.goToCorner(k);
            p.put(hookWalk.r, hookWalk.c, k);
            hookWalk.dropCorner();
        }
        qAway = true;
        return hookWalk.seed;
    }

    public long standard(int slot) throws IndexOutOfBoundsException {
        return standardCount.count(slotNumbered(slot));
    }

    public long fillings(int slot, int word) throws IndexOutOfBoundsException {
        Shape source = slotNumbered(slot);
        Word content = wordNumbered(word);
        if (content.size != source.countBoxes()) {
            return 0;
        }
        return fillingCount.count(source, content);
    }

    public long coefficient(int a, int b, int c) throws IndexOutOfBoundsException {
        Shape inner = slotNumbered(a);
        Shape content = slotNumbered(b);
        Shape outer = slotNumbered(c);
        if (!outer.contains(inner)
                || outer.countBoxes() != inner.countBoxes() + content.countBoxes()) {
            return 0;
        }
        return productCount.count(inner, content, outer);
    }

    public long character(int slot, int type)
            throws IndexOutOfBoundsException, IllegalStateException, UnsupportedOperationException {
        Shape source = slotNumbered(slot);
        Shape hooks = slotNumbered(type);
        if (source.countBoxes() != hooks.countBoxes()) {
            throw new IllegalStateException("the shapes have not as many boxes");
        }
        if (source.countBoxes() > CHARACTER_BOXES) {
            throw new UnsupportedOperationException("the shapes have too many boxes");
        }
        return RimHooks.characterOf(source, hooks);
    }

    private Shape slotNumbered(int slot) {
        if (slot < 0 || slot >= SLOTS) {
            throw new IndexOutOfBoundsException("no such slot");
        }
        return slots[slot];
    }

    private Word wordNumbered(int word) {
        if (word < 0 || word >= WORDS) {
            throw new IndexOutOfBoundsException("no such word");
        }
        return words[word];
    }

    /** The row of workTableau whose last box has k in Q; while a word is taken out there is one. */
    private int rowThatEndsWith(int k) {
        for (int r = 0; r < Tableau.ROWS - 1; r++) {
            if (q.letterAt(r, workTableau.lengths[r] - 1) == k) {
                return r;
            }
        }
        return Tableau.ROWS - 1;
    }

    /** Slides workTableau into all boxes of workShape; how many slides that took. */
    private int slideUntilStraight(int order) {
        int slides = workShape.countBoxes();
        for (int i = 0; i < slides; i++) {
            boolean lowest = order == BY_TURNS ? i % 2 == 0 : order == 0;
            int r = lowest ? workShape.lowestCorner() : workShape.highestCorner();
            workShape.lengths[r]--;
            workTableau.slideInto(r, workShape.lengths[r]);
        }
        return slides;
    }

    /** The lengths of a shape's rows. */
    private static final class Shape {
        final int[] lengths = new int[SHAPE_ROWS];

        void copyFrom(Shape other) {
            System.arraycopy(other.lengths, 0, lengths, 0, SHAPE_ROWS);
        }

        void unpack(long w) {
            for (int i = 0; i < SHAPE_ROWS; i++) {
                lengths[i] = (int) (w >>> (8 * i)) & 255;
            }
        }

        boolean isAllowed() {
            for (int i = 1; i < SHAPE_ROWS; i++) {
                if (lengths[i] > lengths[i - 1]) {
                    return false;
                }
            }
            return countBoxes() <= SHAPE_BOXES;
        }

        int rowLength(int i) {
            return i < 0 || i >= SHAPE_ROWS ? 0 : lengths[i];
        }

        int columnLength(int c) {
            int count = 0;
            for (int i = 0; i < SHAPE_ROWS; i++) {
                if (lengths[i] > c) {
                    count++;
                }
            }
            return count;
        }

        int countBoxes() {
            int count = 0;
            for (int i = 0; i < SHAPE_ROWS; i++) {
                count += lengths[i];
            }
            return count;
        }

        boolean contains(Shape other) {
            for (int i = 0; i < SHAPE_ROWS; i++) {
                if (other.lengths[i] > lengths[i]) {
                    return false;
                }
            }
            return true;
        }

        int armOf(int r, int c) {
            return rowLength(r) - 1 - c;
        }

        int hookOf(int r, int c) {
            return armOf(r, c) + columnLength(c) - r;
        }

        boolean endsColumn(int r) {
            return rowLength(r) > rowLength(r + 1);
        }

        /** The last row with boxes (0 when there is none). */
        int lowestCorner() {
            int r = SHAPE_ROWS - 1;
            while (r > 0 && lengths[r] == 0) {
                r--;
            }
            return r;
        }

        /** The first row whose last box is the last of its column, too. */
        int highestCorner() {
            int r = 0;
            while (r < SHAPE_ROWS - 1 && !endsColumn(r)) {
                r++;
            }
            return r;
        }
    }

    /** A row of letters. */
    private static final class Word {
        final int[] letters = new int[WORD_LETTERS];
        int size = 0;

        int letterAt(int i) {
            return i < 0 || i >= size ? 0 : letters[i];
        }

        void add(int x) {
            if (size < WORD_LETTERS) {
                letters[size] = x;
                size++;
            }
        }
    }

    /** Rows of letters. A word may stand in one column and a shape in one row: the room has both. */
    private static final class Tableau {
        static final int ROWS = WORD_LETTERS;
        static final int COLUMNS = SHAPE_BOXES;

        final int[] lengths = new int[ROWS];
        final int[] letters = new int[ROWS * COLUMNS];

        void clear() {
            Arrays.fill(lengths, 0);
        }

        void copyFrom(Tableau other) {
            System.arraycopy(other.lengths, 0, lengths, 0, ROWS);
            System.arraycopy(other.letters, 0, letters, 0, ROWS * COLUMNS);
        }

        void takeShape(Shape shape) {
            clear();
            System.arraycopy(shape.lengths, 0, lengths, 0, SHAPE_ROWS);
        }

        boolean has(int r, int c) {
            return r >= 0 && r < ROWS && c >= 0 && c < lengths[r];
        }

        int letterAt(int r, int c) {
            return has(r, c) ? letters[r * COLUMNS + c] : 0;
        }

        void put(int r, int c, int x) {
            letters[r * COLUMNS + c] = x;
        }

        void append(int r, int x) {
            put(r, lengths[r], x);
            lengths[r]++;
        }

        int replace(int r, int c, int x) {
            int old = letterAt(r, c);
            put(r, c, x);
            return old;
        }

        int countRows() {
            int count = 0;
            for (int r = 0; r < ROWS; r++) {
                if (lengths[r] > 0) {
                    count++;
                }
            }
            return count;
        }

        int countBoxes() {
            int count = 0;
            for (int r = 0; r < ROWS; r++) {
                count += lengths[r];
            }
            return count;
        }

        int greatestLetter() {
            int greatest = 0;
            for (int r = 0; r < ROWS; r++) {
                greatest = Math.max(greatest, letterAt(r, lengths[r] - 1));
            }
            return greatest;
        }

        boolean isStandard() {
            int n = countBoxes();
            int seen = 0;
            for (int r = 0; r < ROWS; r++) {
                for (int c = 0; c < lengths[r]; c++) {
                    seen |= 1 << letterAt(r, c);
                }
            }
            return seen == (1 << (n + 1)) - 2;
        }

        boolean isSameAs(Tableau other) {
            for (int r = 0; r < ROWS; r++) {
                if (lengths[r] != other.lengths[r]) {
                    return false;
                }
                for (int c = 0; c < lengths[r]; c++) {
                    if (letterAt(r, c) != other.letterAt(r, c)) {
                        return false;
                    }
                }
            }
            return true;
        }

        void insertAll(Word word) {
            clear();
            for (int i = 0; i < word.size; i++) {
                addByRows(word.letterAt(i));
            }
        }

        /** Inserts x by rows: the row that has got a box. */
        int addByRows(int x) {
            int moved = x;
            int r = 0;
            int c = firstGreater(r, moved);
            while (r < ROWS - 1 && c < lengths[r]) {
                moved = replace(r, c, moved);
                r++;
                c = firstGreater(r, moved);
            }
            append(r, moved);
            return r;
        }

        /** Inserts x by columns: the row that has got a box. */
        int addByColumns(int x) {
            int moved = x;
            int c = 0;
            int r = firstNotLess(c, moved);
            while (c < COLUMNS - 1 && has(r, c)) {
                moved = replace(r, c, moved);
                c++;
                r = firstNotLess(c, moved);
            }
            append(r, moved);
            return r;
        }

        /** Takes the last box of a row out, as if it had come by an insertion by rows: its letter. */
        int takeByRows(int row) {
            if (lengths[row] == 0) {
                return 0;
            }
            lengths[row]--;
            int moved = letters[row * COLUMNS + lengths[row]];
            for (int r = row - 1; r >= 0; r--) {
                moved = replace(r, lastLess(r, moved), moved);
            }
            return moved;
        }

        /** The column of the first letter in the row that is greater than x, or its end. */
        private int firstGreater(int r, int x) {
            int c = 0;
            while (c < lengths[r] && letterAt(r, c) <= x) {
                c++;
            }
            return c;
        }

        /** The row of the first letter in the column that is not less than x, or its end. */
        private int firstNotLess(int c, int x) {
            int r = 0;
            while (r < ROWS - 1 && has(r, c) && letterAt(r, c) < x) {
                r++;
            }
            return r;
        }

        /** The column of the last letter in the row that is less than x. */
        private int lastLess(int r, int x) {
            int c = Math.max(lengths[r] - 1, 0);
            while (c > 0 && letterAt(r, c) >= x) {
                c--;
            }
            return c;
        }

        /** Puts a word, as a reading, into the boxes that whole has and left has not. */
        void fillSkew(Shape left, Shape whole, Word reading) {
            takeShape(whole);
            int i = 0;
            for (int r = SHAPE_ROWS - 1; r >= 0; r--) {
                for (int c = left.lengths[r]; c < whole.lengths[r]; c++) {
                    put(r, c, reading.letterAt(i));
                    i++;
                }
            }
        }

        boolean isColumnStrictOutside(Shape left) {
            for (int r = 0; r < SHAPE_ROWS; r++) {
                for (int c = left.lengths[r]; c < lengths[r]; c++) {
                    int x = letterAt(r, c);
                    if (c > left.lengths[r] && letterAt(r, c - 1) > x) {
                        return false;
                    }
                    if (r > 0 && c >= left.lengths[r - 1] && letterAt(r - 1, c) >= x) {
                        return false;
                    }
                }
            }
            return true;
        }

        /** Slides into a box that has only boxes of the filling behind it: the row that has lost a box. */
        int slideInto(int r, int c) {
            int holeRow = r;
            int holeColumn = c;
            for (int step = 0; step < ROWS + COLUMNS; step++) {
                int right = letterAt(holeRow, holeColumn + 1);
                int below = letterAt(holeRow + 1, holeColumn);
                // No letter is 0, so 0 means that the box is not there.
                if (right == 0 && below == 0) {
                    break;
                }
                if (below != 0 && (right == 0 || below <= right)) {
                    put(holeRow, holeColumn, below);
                    holeRow++;
                } else {
                    put(holeRow, holeColumn, right);
                    holeColumn++;
                }
            }
            lengths[holeRow]--;
            return holeRow;
        }
    }

    /** The walks by hooks to the corners that the numbers of a drawing go to. */
    private static final class HookWalk {
        private final Shape shape = new Shape();
        long seed = 0;
        int r = 0;
        int c = 0;

        void start(Shape from, long firstSeed) {
            shape.copyFrom(from);
            seed = firstSeed;
        }

        /** Walks from one of the shape's k boxes (k is above 0) to a corner, which is (r, c) then. */
        void goToCorner(int k) {
            goToBox(nextBelow(k));
            int others = countOthers();
            for (int step = 0; step < SHAPE_BOXES && others > 0; step++) {
                goOn(nextBelow(others));
                others = countOthers();
            }
        }

        void dropCorner() {
            shape.lengths[r]--;
        }

        private int countOthers() {
            return shape.hookOf(r, c) - 1;
        }

        private int nextBelow(int bound) {
            seed = seed * 6364136223846793005L + 1442695040888963407L;
            return (int) ((seed >>> 33) % bound);
        }

        private void goToBox(int number) {
            r = 0;
            c = number;
            while (r < SHAPE_ROWS - 1 && c >= shape.lengths[r]) {
                c -= shape.lengths[r];
                r++;
            }
        }

        private void goOn(int number) {
            int arm = shape.armOf(r, c);
            if (number < arm) {
                c += number + 1;
            } else {
                r += number - arm + 1;
            }
        }
    }

    /** The shapes of each number of boxes in their order, the greater row first. */
    private static final class ShapeOrder {
        private static final int WIDTH = SHAPE_BOXES + 1;

        // At n * WIDTH + most: the number of shapes of n boxes with no row longer than most.
        private final int[] counts = new int[WIDTH * WIDTH];

        ShapeOrder() {
            for (int most = 0; most < WIDTH; most++) {
                counts[most] = 1;
            }
            for (int n = 1; n < WIDTH; n++) {
                for (int most = 1; most < WIDTH; most++) {
                    int withLongest = n < most ? 0 : counts[(n - most) * WIDTH + most];
                    counts[n * WIDTH + most] = counts[n * WIDTH + most - 1] + withLongest;
                }
            }
        }

        int countOf(int n, int most) {
            return counts[n * WIDTH + most];
        }

        int countBefore(Shape shape) {
            int before = 0;
            int boxes = shape.countBoxes();
            int most = boxes;
            for (int i = 0; i < SHAPE_ROWS; i++) {
                int length = shape.lengths[i];
                before += countOf(boxes, most) - countOf(boxes, length);
                boxes -= length;
                most = length;
            }
            return before;
        }

        /** Makes found the shape of n boxes with a rank that there is; false when it has too many rows. */
        boolean find(int n, int rank, Shape found) {
            int boxes = n;
            int before = rank;
            int most = n;
            for (int i = 0; i < SHAPE_ROWS; i++) {
                int length = Math.min(most, boxes);
                while (length > 0 && before >= countOf(boxes - length, length)) {
                    before -= countOf(boxes - length, length);
                    length--;
                }
                found.lengths[i] = length;
                boxes -= length;
                most = length;
            }
            return boxes == 0;
        }
    }

    /** The number of standard tableaux: n! divided by the sizes of all hooks, as powers, for 24! is no long. */
    private static final class StandardCount {
        private final int[] powers = new int[SHAPE_BOXES + 1];

        long count(Shape shape) {
            Arrays.fill(powers, 0);
            for (int m = shape.countBoxes(); m > 0; m--) {
                powers[m]++;
            }
            for (int r = 0; r < SHAPE_ROWS; r++) {
                for (int c = 0; c < shape.lengths[r]; c++) {
                    powers[shape.hookOf(r, c)]--;
                }
            }
            for (int m = SHAPE_BOXES; m > 1; m--) {
                splitIntoFactors(m);
            }
            return multiply();
        }

        private void splitIntoFactors(int m) {
            for (int f = 2; f * f <= m; f++) {
                if (m % f == 0) {
                    powers[f] += powers[m];
                    powers[m / f] += powers[m];
                    powers[m] = 0;
                    return;
                }
            }
        }

        private long multiply() {
            long product = 1;
            for (int m = 2; m <= SHAPE_BOXES; m++) {
                for (int i = 0; i < powers[m]; i++) {
                    product *= m;
                }
            }
            return product;
        }
    }

    /**
     * The number of tableaux with given letters. One grows box by box, the letters in their order,
     * and equal ones from the left, which is: no later one in a lower row. So what is counted is, for
     * each shape within the whole one, and each row, how many ways lead to it whose last box is in
     * that row or a lower one. The shapes within are numbered in the order of their rows, the lesser first.
     */
    private static final class FillingCount {
        // So many has 6, 4, 2, 2, 1, 1; no shape of at most 16 boxes has more.
        private static final int MOST_WITHIN = 181;
        private static final int WIDTH = WORD_LETTERS + 1;

        private final long[] ways = new long[MOST_WITHIN * SHAPE_ROWS];
        // At i * WIDTH + most: how many ways rows i, i + 1, .. can go on, if row i is not longer than most.
        private final int[] endings = new int[(SHAPE_ROWS + 1) * WIDTH];
        private final boolean[] newLetter = new boolean[WORD_LETTERS];
        private final Shape grown = new Shape();

        long count(Shape whole, Word content) {
            sortLetters(content);
            countEndings(whole);
            int within = endings[whole.lengths[0]];
            Arrays.fill(grown.lengths, 0);
            ways[0] = 1;
            for (int number = 1; number < within; number++) {
                goToNext(whole);
                countWays(number);
            }
            return ways[(within - 1) * SHAPE_ROWS];
        }

        /** Notes for each place in the sorted content whether a letter is there for the first time. */
        private void sortLetters(Word content) {
            int place = 0;
            for (int x = 1; x <= LETTERS; x++) {
                int first = place;
                for (int i = 0; i < content.size; i++) {
                    if (content.letters[i] == x) {
                        newLetter[place] = place == first;
                        place++;
                    }
                }
            }
        }

        private void countEndings(Shape whole) {
            Arrays.fill(endings, 1);
            for (int i = SHAPE_ROWS - 1; i >= 0; i--) {
                for (int most = 1; most < WIDTH; most++) {
                    int withLongest = most > whole.lengths[i] ? 0 : endings[(i + 1) * WIDTH + most];
                    endings[i * WIDTH + most] = endings[i * WIDTH + most - 1] + withLongest;
                }
            }
        }

        private void goToNext(Shape whole) {
            for (int i = SHAPE_ROWS - 1; i >= 0; i--) {
                if (grown.lengths[i] < whole.lengths[i]
                        && (i == 0 || grown.lengths[i] < grown.lengths[i - 1])) {
                    grown.lengths[i]++;
                    return;
                }
                grown.lengths[i] = 0;
            }
        }

        private void countWays(int number) {
            boolean anyRow = newLetter[grown.countBoxes() - 1];
            long sum = 0;
            for (int i = SHAPE_ROWS - 1; i >= 0; i--) {
                if (grown.endsColumn(i)) {
                    int smaller = number - endings[(i + 1) * WIDTH + grown.lengths[i] - 1];
                    sum += ways[smaller * SHAPE_ROWS + (anyRow ? 0 : i)];
                }
                ways[number * SHAPE_ROWS + i] = sum;
            }
        }
    }

    /** The product coefficient: the boxes are filled in the order of the reading from its end. */
    private static final class ProductCount {
        private static final int NONE = -1;

        private final int[] letters = new int[SHAPE_BOXES];
        private final int[] boxAbove = new int[SHAPE_BOXES];
        private final int[] boxToRight = new int[SHAPE_BOXES];
        private final int[] used = new int[SHAPE_ROWS + 1];
        private final Shape content = new Shape();
        private int boxes = 0;

        /** For an inner shape within the outer one, and a content of as many letters as boxes are between. */
        long count(Shape inner, Shape letterCounts, Shape outer) {
            content.copyFrom(letterCounts);
            boxes = 0;
            int startAbove = 0;
            for (int r = 0; r < SHAPE_ROWS; r++) {
                int start = boxes;
                for (int c = outer.lengths[r] - 1; c >= inner.lengths[r]; c--) {
                    boolean hasAbove = r > 0 && c >= inner.lengths[r - 1];
                    boxAbove[boxes] = hasAbove ? startAbove + outer.lengths[r - 1] - 1 - c : NONE;
                    boxToRight[boxes] = boxes > start ? boxes - 1 : NONE;
                    boxes++;
                }
                startAbove = start;
            }
            Arrays.fill(used, 0);
            // Letter 1 follows no other: a letter 0 that is there often enough spares asking.
            used[0] = SHAPE_BOXES;
            return countFrom(0);
        }

        private long countFrom(int box) {
            if (box >= boxes) {
                return 1;
            }
            int least = boxAbove[box] == NONE ? 1 : letters[boxAbove[box]] + 1;
            int most = boxToRight[box] == NONE ? SHAPE_ROWS : letters[boxToRight[box]];
            long sum = 0;
            for (int x = least; x <= most; x++) {
                if (used[x] < content.lengths[x - 1] && used[x] < used[x - 1]) {
                    letters[box] = x;
                    used[x]++;
                    sum += countFrom(box + 1);
                    used[x]--;
                }
            }
            return sum;
        }
    }

    /**
     * Characters. A shape is a row of beads, its row i one at the place (length + 7 - i): to take a rim
     * hook of k boxes off is to move a bead k places down to a free one, and it touches one row more than
     * there are beads that are passed.
     */
    private static final class RimHooks {
        private static final int PLACES = CHARACTER_BOXES + SHAPE_ROWS;

        static long characterOf(Shape shape, Shape hooks) {
            return sumFrom(0, beadsOf(shape), hooks);
        }

        private static int beadsOf(Shape shape) {
            int beads = 0;
            for (int i = 0; i < SHAPE_ROWS; i++) {
                beads |= 1 << (shape.lengths[i] + SHAPE_ROWS - 1 - i);
            }
            return beads;
        }

        /** The character of the beads' shape at what is left of hooks from row i on. */
        private static long sumFrom(int i, int beads, Shape hooks) {
            int k = hooks.rowLength(i);
            if (k == 0) {
                return 1;
            }
            long sum = 0;
            for (int place = k; place < PLACES; place++) {
                int from = 1 << place;
                int to = 1 << (place - k);
                if ((beads & from) != 0 && (beads & to) == 0) {
                    int passed = Integer.bitCount(beads & (from - to));
                    long part = sumFrom(i + 1, beads - from + to, hooks);
                    sum += passed % 2 == 0 ? part : -part;
                }
            }
            return sum;
        }
    }
}
