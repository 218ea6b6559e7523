import java.util.ArrayList;
import java.util.Collections;
import java.util.HashMap;
import java.util.List;
import java.util.Map;
import java.util.NoSuchElementException;
import java.util.TreeMap;

/**
 * The document's words once more, as plainly as the Java library allows and with nothing taken from the
 * class under test: boxes are looked up one by one, shapes are listed, counts are made by trying.
 */
final class PlainBench {
    /** A box; in a map the boxes come row by row. */
    record Box(int r, int c) implements Comparable<Box> {
        @Override
        public int compareTo(Box other) {
            return r != other.r ? Integer.compare(r, other.r) : Integer.compare(c, other.c);
        }

        Box right() {
            return new Box(r, c + 1);
        }

        Box below() {
            return new Box(r + 1, c);
        }
    }

    private final List<List<Integer>> slots = new ArrayList<>();
    private final List<List<Integer>> words = new ArrayList<>();
    private TreeMap<Box, Integer> p = new TreeMap<>();
    private TreeMap<Box, Integer> q = null;

    PlainBench() {
        for (int i = 0; i < 4; i++) {
            slots.add(List.of());
        }
        for (int i = 0; i < 2; i++) {
            words.add(List.of());
        }
    }

    // Slots.

    boolean shape(int slot, long w) {
        checkSlot(slot);
        List<Integer> lengths = new ArrayList<>();
        for (int i = 0; i < 8; i++) {
            lengths.add((int) ((w >> (8 * i)) & 0xff));
        }
        int sum = 0;
        for (int i = 0; i < 8; i++) {
            sum += lengths.get(i);
            if (i > 0 && lengths.get(i) > lengths.get(i - 1)) {
                return false;
            }
        }
        if (sum > 24) {
            return false;
        }
        slots.set(slot, trimmed(lengths));
        return true;
    }

    int row(int slot, int i) {
        checkSlot(slot);
        return i < 0 || i > 7 ? 0 : length(slots.get(slot), i);
    }

    boolean conjugate(int slot) {
        checkSlot(slot);
        TreeMap<Box, Integer> turned = new TreeMap<>();
        for (Box box : boxes(slots.get(slot))) {
            turned.put(new Box(box.c(), box.r()), 0);
        }
        List<Integer> shape = shapeOf(turned);
        if (shape.size() > 8) {
            return false;
        }
        slots.set(slot, shape);
        return true;
    }

    int rank(int slot) {
        checkSlot(slot);
        return shapesOf(sum(slots.get(slot))).indexOf(slots.get(slot));
    }

    void unrank(int slot, int n, int rank) {
        checkSlot(slot);
        if (n < 0 || n > 24) {
            throw new IllegalArgumentException();
        }
        List<List<Integer>> shapes = shapesOf(n);
        if (rank < 0 || rank >= shapes.size()) {
            throw new NoSuchElementException();
        }
        if (shapes.get(rank).size() > 8) {
            throw new UnsupportedOperationException();
        }
        slots.set(slot, shapes.get(rank));
    }

    private static final Map<Integer, List<List<Integer>>> LISTED = new HashMap<>();

    /** All shapes of n boxes, in their order. */
    List<List<Integer>> shapesOf(int n) {
        return LISTED.computeIfAbsent(n, size -> {
            List<List<Integer>> list = new ArrayList<>();
            listShapes(size, size, new ArrayList<>(), list);
            return list;
        });
    }

    private static void listShapes(int n, int most, List<Integer> begun, List<List<Integer>> list) {
        if (n == 0) {
            list.add(List.copyOf(begun));
            return;
        }
        for (int k = Math.min(n, most); k >= 1; k--) {
            begun.add(k);
            listShapes(n - k, k, begun, list);
            begun.remove(begun.size() - 1);
        }
    }

    // Words.

    boolean letter(int word, int v) {
        checkWord(word);
        if (v < 1 || v > 16 || words.get(word).size() == 16) {
            return false;
        }
        List<Integer> longer = new ArrayList<>(words.get(word));
        longer.add(v);
        words.set(word, longer);
        return true;
    }

    boolean cut(int word, int n) {
        checkWord(word);
        if (n < 0 || n > words.get(word).size()) {
            return false;
        }
        words.set(word, new ArrayList<>(words.get(word).subList(0, n)));
        return true;
    }

    int length(int word) {
        checkWord(word);
        return words.get(word).size();
    }

    int at(int word, int i) {
        checkWord(word);
        return i < 0 || i >= words.get(word).size() ? 0 : words.get(word).get(i);
    }

    // Insertion.

    int insert(int word, boolean columns) {
        checkWord(word);
        p = new TreeMap<>();
        q = new TreeMap<>();
        int number = 0;
        for (int x : words.get(word)) {
            number++;
            q.put(columns ? byColumns(p, x) : byRows(p, x), number);
        }
        return shapeOf(p).size();
    }

    int entry(boolean ofQ, int r, int c) {
        TreeMap<Box, Integer> tableau = ofQ ? q : p;
        return tableau == null ? 0 : tableau.getOrDefault(new Box(r, c), 0);
    }

    private static Box byRows(Map<Box, Integer> tableau, int letter) {
        int x = letter;
        for (int r = 0;; r++) {
            int c = 0;
            while (tableau.containsKey(new Box(r, c)) && tableau.get(new Box(r, c)) <= x) {
                c++;
            }
            Integer old = tableau.put(new Box(r, c), x);
            if (old == null) {
                return new Box(r, c);
            }
            x = old;
        }
    }

    private static Box byColumns(Map<Box, Integer> tableau, int letter) {
        int x = letter;
        for (int c = 0;; c++) {
            int r = 0;
            while (tableau.containsKey(new Box(r, c)) && tableau.get(new Box(r, c)) < x) {
                r++;
            }
            Integer old = tableau.put(new Box(r, c), x);
            if (old == null) {
                return new Box(r, c);
            }
            x = old;
        }
    }

    /** The word is found letter by letter from its end: the one that, inserted into a lesser tableau, gives P. */
    void recover(int word) {
        checkWord(word);
        if (q == null) {
            throw new IllegalStateException();
        }
        TreeMap<Box, Integer> left = new TreeMap<>(p);
        List<Integer> found = new ArrayList<>();
        for (int k = p.size(); k >= 1; k--) {
            Box box = null;
            for (Map.Entry<Box, Integer> e : q.entrySet()) {
                box = e.getValue() == k ? e.getKey() : box;
            }
            int x = left.remove(box);
            for (int r = box.r() - 1; r >= 0; r--) {
                Box last = null;
                for (int c = 0; left.containsKey(new Box(r, c)); c++) {
                    last = left.get(new Box(r, c)) < x ? new Box(r, c) : last;
                }
                x = left.put(last, x);
            }
            found.add(0, x);
        }
        words.set(word, found);
    }

    void read(int word) {
        checkWord(word);
        if (p.size() > 16 || !p.isEmpty() && Collections.max(p.values()) > 16) {
            throw new IllegalStateException();
        }
        words.set(word, reading(p));
    }

    boolean equivalent() {
        TreeMap<Box, Integer> first = new TreeMap<>();
        TreeMap<Box, Integer> second = new TreeMap<>();
        words.get(0).forEach(x -> byRows(first, x));
        words.get(1).forEach(x -> byRows(second, x));
        return first.equals(second);
    }

    // Sliding.

    int rectify(int inner, int outer, int word, int order) {
        checkSlot(inner);
        checkSlot(outer);
        checkWord(word);
        List<Box> left = boxes(slots.get(inner));
        List<Box> whole = boxes(slots.get(outer));
        if (order < 0 || order > 2 || !whole.containsAll(left)) {
            throw new IllegalArgumentException();
        }
        if (words.get(word).size() != whole.size() - left.size()) {
            throw new IllegalStateException();
        }
        TreeMap<Box, Integer> filling = fillingOf(left, whole, words.get(word));
        if (!isColumnStrict(filling)) {
            throw new UnsupportedOperationException();
        }
        int slides = 0;
        while (!left.isEmpty()) {
            List<Box> corners = new ArrayList<>();
            for (Box box : left) {
                if (!left.contains(box.right()) && !left.contains(box.below())) {
                    corners.add(box);
                }
            }
            boolean greatest = order == 0 || order == 2 && slides % 2 == 0;
            Box into = corners.get(greatest ? corners.size() - 1 : 0);
            slide(filling, into);
            left.remove(into);
            slides++;
        }
        p = filling;
        q = null;
        return slides;
    }

    private static TreeMap<Box, Integer> fillingOf(List<Box> left, List<Box> whole, List<Integer> reading) {
        List<Box> order = new ArrayList<>(whole);
        order.removeAll(left);
        order.sort((a, b) -> a.r() != b.r() ? b.r() - a.r() : a.c() - b.c());
        TreeMap<Box, Integer> filling = new TreeMap<>();
        for (int i = 0; i < order.size(); i++) {
            filling.put(order.get(i), reading.get(i));
        }
        return filling;
    }

    private static boolean isColumnStrict(Map<Box, Integer> filling) {
        for (Map.Entry<Box, Integer> a : filling.entrySet()) {
            for (Map.Entry<Box, Integer> b : filling.entrySet()) {
                boolean before = a.getKey().r() == b.getKey().r() && a.getKey().c() < b.getKey().c();
                boolean above = a.getKey().c() == b.getKey().c() && a.getKey().r() < b.getKey().r();
                if (before && b.getValue() < a.getValue() || above && b.getValue() <= a.getValue()) {
                    return false;
                }
            }
        }
        return true;
    }

    /** Slides into a hole that is no box of the filling: the last hole. */
    private static Box slide(Map<Box, Integer> filling, Box into) {
        Box hole = into;
        while (true) {
            Integer right = filling.get(hole.right());
            Integer below = filling.get(hole.below());
            if (right == null && below == null) {
                return hole;
            }
            boolean down = right == null || below != null && below.compareTo(right) <= 0;
            Box from = down ? hole.below() : hole.right();
            filling.put(hole, filling.remove(from));
            hole = from;
        }
    }

    void turn() {
        List<Integer> letters = new ArrayList<>(p.values());
        Collections.sort(letters);
        for (int i = 0; i < letters.size(); i++) {
            if (letters.get(i) != i + 1) {
                throw new IllegalStateException();
            }
        }
        TreeMap<Box, Integer> turned = new TreeMap<>();
        for (int k = letters.size(); k >= 1; k--) {
            p.remove(new Box(0, 0));
            turned.put(slide(p, new Box(0, 0)), k);
        }
        p = turned;
        q = null;
    }

    long draw(int slot, long seed) {
        checkSlot(slot);
        List<Box> left = boxes(slots.get(slot));
        TreeMap<Box, Integer> drawn = new TreeMap<>();
        long s = seed;
        while (!left.isEmpty()) {
            s = s * 6364136223846793005L + 1442695040888963407L;
            Box box = left.get((int) ((s >>> 33) % left.size()));
            List<Box> others = hookOthers(left, box);
            while (!others.isEmpty()) {
                s = s * 6364136223846793005L + 1442695040888963407L;
                box = others.get((int) ((s >>> 33) % others.size()));
                others = hookOthers(left, box);
            }
            drawn.put(box, left.size());
            left.remove(box);
        }
        p = drawn;
        q = null;
        return s;
    }

    private static List<Box> hookOthers(List<Box> boxes, Box of) {
        List<Box> others = new ArrayList<>();
        for (Box box = of.right(); boxes.contains(box); box = box.right()) {
            others.add(box);
        }
        for (Box box = of.below(); boxes.contains(box); box = box.below()) {
            others.add(box);
        }
        return others;
    }

    // Counts.

    private static final Map<List<Integer>, Long> STANDARD = new HashMap<>();

    long standard(int slot) {
        checkSlot(slot);
        return standardOf(slots.get(slot));
    }

    private static long standardOf(List<Integer> shape) {
        if (shape.isEmpty()) {
            return 1;
        }
        Long known = STANDARD.get(shape);
        if (known != null) {
            return known;
        }
        long sum = 0;
        for (int i = 0; i < shape.size(); i++) {
            if (length(shape, i) > length(shape, i + 1)) {
                List<Integer> smaller = new ArrayList<>(shape);
                smaller.set(i, shape.get(i) - 1);
                sum += standardOf(trimmed(smaller));
            }
        }
        STANDARD.put(shape, sum);
        return sum;
    }

    /** By taking off the boxes of the greatest letter, of which no two are in one column, in all ways. */
    long fillings(int slot, int word) {
        checkSlot(slot);
        checkWord(word);
        if (words.get(word).size() != sum(slots.get(slot))) {
            return 0;
        }
        List<Integer> counts = new ArrayList<>();
        for (int x = 1; x <= 16; x++) {
            counts.add(Collections.frequency(words.get(word), x));
        }
        return fillingsOf(slots.get(slot), counts, 16, new HashMap<>());
    }

    private static long fillingsOf(List<Integer> shape, List<Integer> counts, int x, Map<String, Long> known) {
        if (x == 0) {
            return shape.isEmpty() ? 1 : 0;
        }
        String key = shape + " " + x;
        Long before = known.get(key);
        if (before != null) {
            return before;
        }
        long sum = 0;
        for (List<Integer> smaller : subShapes(shape)) {
            boolean strip = sum(shape) - sum(smaller) == counts.get(x - 1);
            for (int i = 0; i < shape.size(); i++) {
                strip = strip && length(smaller, i) >= length(shape, i + 1);
            }
            sum += strip ? fillingsOf(smaller, counts, x - 1, known) : 0;
        }
        known.put(key, sum);
        return sum;
    }

    /** By making all column-strict fillings with the content, and looking at the whole reading of each. */
    long coefficient(int a, int b, int c) {
        checkSlot(a);
        checkSlot(b);
        checkSlot(c);
        List<Box> whole = boxes(slots.get(c));
        List<Box> left = boxes(slots.get(a));
        if (!whole.containsAll(left) || whole.size() != left.size() + sum(slots.get(b))) {
            return 0;
        }
        whole.removeAll(left);
        return countProduct(whole, 0, new TreeMap<>(), new ArrayList<>(slots.get(b)));
    }

    private static long countProduct(List<Box> boxes, int i, TreeMap<Box, Integer> filling, List<Integer> counts) {
        if (i == boxes.size()) {
            return isLattice(reading(filling)) ? 1 : 0;
        }
        Box box = boxes.get(i);
        int least = filling.getOrDefault(new Box(box.r(), box.c() - 1), 1);
        least = Math.max(least, filling.getOrDefault(new Box(box.r() - 1, box.c()), 0) + 1);
        long sum = 0;
        for (int x = least; x <= counts.size(); x++) {
            if (counts.get(x - 1) > 0) {
                counts.set(x - 1, counts.get(x - 1) - 1);
                filling.put(box, x);
                sum += countProduct(boxes, i + 1, filling, counts);
                filling.remove(box);
                counts.set(x - 1, counts.get(x - 1) + 1);
            }
        }
        return sum;
    }

    private static boolean isLattice(List<Integer> reading) {
        int[] counts = new int[10];
        for (int k = reading.size() - 1; k >= 0; k--) {
            counts[reading.get(k)]++;
            for (int i = 1; i < 9; i++) {
                if (counts[i + 1] > counts[i]) {
                    return false;
                }
            }
        }
        return true;
    }

    long character(int slot, int type) {
        checkSlot(slot);
        checkSlot(type);
        if (sum(slots.get(slot)) != sum(slots.get(type))) {
            throw new IllegalStateException();
        }
        if (sum(slots.get(slot)) > 14) {
            throw new UnsupportedOperationException();
        }
        return characterOf(slots.get(slot), slots.get(type));
    }

    private static final Map<String, Long> CHARACTERS = new HashMap<>();

    static long characterOf(List<Integer> s, List<Integer> t) {
        if (t.isEmpty()) {
            return 1;
        }
        String key = s + " " + t;
        Long known = CHARACTERS.get(key);
        if (known != null) {
            return known;
        }
        long sum = 0;
        for (List<Integer> smaller : subShapes(s)) {
            List<Box> hook = boxes(s);
            hook.removeAll(boxes(smaller));
            if (hook.size() == t.get(0) && isRimHook(hook)) {
                long rows = hook.stream().map(Box::r).distinct().count();
                long part = characterOf(smaller, t.subList(1, t.size()));
                sum += rows % 2 == 1 ? part : -part;
            }
        }
        CHARACTERS.put(key, sum);
        return sum;
    }

    private static boolean isRimHook(List<Box> hook) {
        List<Box> reached = new ArrayList<>();
        reached.add(hook.get(0));
        for (int i = 0; i < reached.size(); i++) {
            Box at = reached.get(i);
            for (Box box : hook) {
                boolean beside = Math.abs(box.r() - at.r()) + Math.abs(box.c() - at.c()) == 1;
                if (beside && !reached.contains(box)) {
                    reached.add(box);
                }
            }
        }
        if (reached.size() != hook.size()) {
            return false;
        }
        for (Box box : hook) {
            if (hook.contains(box.right()) && hook.contains(box.below()) && hook.contains(box.below().right())) {
                return false;
            }
        }
        return true;
    }

    // Helpers.

    private static void checkSlot(int slot) {
        if (slot < 0 || slot > 3) {
            throw new IndexOutOfBoundsException();
        }
    }

    private static void checkWord(int word) {
        if (word < 0 || word > 1) {
            throw new IndexOutOfBoundsException();
        }
    }

    private static int sum(List<Integer> shape) {
        return shape.stream().mapToInt(Integer::intValue).sum();
    }

    private static int length(List<Integer> shape, int i) {
        return i < shape.size() ? shape.get(i) : 0;
    }

    private static List<Integer> trimmed(List<Integer> lengths) {
        List<Integer> shape = new ArrayList<>(lengths);
        shape.removeIf(n -> n == 0);
        return shape;
    }

    private static List<Box> boxes(List<Integer> shape) {
        List<Box> boxes = new ArrayList<>();
        for (int r = 0; r < shape.size(); r++) {
            for (int c = 0; c < shape.get(r); c++) {
                boxes.add(new Box(r, c));
            }
        }
        return boxes;
    }

    private static List<Integer> shapeOf(Map<Box, Integer> tableau) {
        List<Integer> shape = new ArrayList<>();
        for (int r = 0; tableau.containsKey(new Box(r, 0)); r++) {
            int c = 0;
            while (tableau.containsKey(new Box(r, c))) {
                c++;
            }
            shape.add(c);
        }
        return shape;
    }

    private static List<Integer> reading(TreeMap<Box, Integer> filling) {
        List<Box> order = new ArrayList<>(filling.keySet());
        order.sort((a, b) -> a.r() != b.r() ? b.r() - a.r() : a.c() - b.c());
        List<Integer> letters = new ArrayList<>();
        for (Box box : order) {
            letters.add(filling.get(box));
        }
        return letters;
    }

    private static final Map<List<Integer>, List<List<Integer>>> WITHIN = new HashMap<>();

    /** All shapes whose boxes are a shape's, too. */
    private static List<List<Integer>> subShapes(List<Integer> shape) {
        List<List<Integer>> known = WITHIN.get(shape);
        if (known == null) {
            known = new ArrayList<>();
            listSubShapes(shape, new ArrayList<>(), known);
            WITHIN.put(List.copyOf(shape), known);
        }
        return known;
    }

    private static void listSubShapes(List<Integer> shape, List<Integer> begun, List<List<Integer>> list) {
        int i = begun.size();
        if (i == shape.size()) {
            list.add(trimmed(begun));
            return;
        }
        int most = i == 0 ? shape.get(0) : Math.min(shape.get(i), begun.get(i - 1));
        for (int k = 0; k <= most; k++) {
            begun.add(k);
            listSubShapes(shape, begun, list);
            begun.remove(i);
        }
    }
}
