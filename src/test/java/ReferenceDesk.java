import java.util.ArrayDeque;
import java.util.ArrayList;
import java.util.List;
import java.util.Map;
import java.util.TreeMap;
import java.util.TreeSet;
import java.util.function.IntPredicate;
import java.util.regex.Pattern;

/**
 * The document's words taken as they stand: groups are sets of all their elements, and a text is tried
 * against the grammar by cutting it in every way. Slow, and alike to the program in nothing but the answers.
 */
final class ReferenceDesk {
    private static final int NO_ELEMENT = -1;
    private static final Pattern POWER = Pattern.compile(".*\\^[0-9]");
    private static final Pattern LETTER = Pattern.compile("[a-f]");
    private static final Pattern CYCLE = Pattern.compile("\\([0-6]*\\)");

    final int degree;
    String text = "";
    final List<Integer> generators = new ArrayList<>();
    final List<Integer> targets = new ArrayList<>();
    final List<TreeSet<Integer>> slots = new ArrayList<>();

    ReferenceDesk(int n) {
        int bits = 1 + (n & 7);
        degree = bits == 8 ? 7 : bits;
        for (int slot = 0; slot < 5; slot++) {
            slots.add(madeBy(List.of()));
        }
    }

    boolean type(char c) {
        if (c < 32 || c > 126 || text.length() == 24) {
            return false;
        }
        text += c;
        return true;
    }

    void wipe() {
        text = "";
    }

    int value(int point) {
        int x = textElement();
        needIndex(point, 0, degree);
        return at(x, point);
    }

    int generate() {
        int x = textElement();
        needState(generators.size() < 6);
        generators.add(x);
        targets.add(NO_ELEMENT);
        slots.set(0, madeBy(generators));
        return generators.size();
    }

    void forget() {
        generators.clear();
        targets.clear();
        slots.set(0, madeBy(List.of()));
    }

    void image(int k) {
        int x = textElement();
        needIndex(k, 0, generators.size());
        targets.set(k, x);
    }

    boolean extend() {
        needState(!targets.contains(NO_ELEMENT));
        return mapping() != null;
    }

    int kernel(int to) {
        needIndex(to, 1, 5);
        needState(!targets.contains(NO_ELEMENT) && mapping() != null);
        Map<Integer, Integer> mapping = mapping();
        return put(to, those(slots.get(0), x -> mapping.get(x) == identity()));
    }

    int images(int to) {
        needIndex(to, 1, 5);
        needState(!targets.contains(NO_ELEMENT));
        return put(to, madeBy(targets));
    }

    int stabiliser(int from, int set, boolean whole, int to) {
        needIndex(from, 0, 5);
        needIndex(to, 1, 5);
        needArgument(set >= 0 && set < 1 << degree);
        return put(to, those(slots.get(from), x -> keeps(x, set, whole)));
    }

    private boolean keeps(int x, int set, boolean whole) {
        for (int p = 0; p < degree; p++) {
            if ((set & 1 << p) != 0 && !(whole ? (set & 1 << at(x, p)) != 0 : at(x, p) == p)) {
                return false;
            }
        }
        return true;
    }

    int centraliser(int from, int to) {
        needIndex(from, 0, 5);
        needIndex(to, 1, 5);
        int y = textElement();
        return put(to, those(slots.get(from), x -> product(x, y) == product(y, x)));
    }

    int closure(int from, int to) {
        needIndex(from, 0, 5);
        needIndex(to, 1, 5);
        int y = textElement();
        TreeSet<Integer> conjugates = new TreeSet<>();
        for (int x : slots.get(from)) {
            conjugates.add(product(product(inverse(x), y), x));
        }
        return put(to, madeBy(conjugates));
    }

    int derived(int from, int to) {
        needIndex(from, 0, 5);
        needIndex(to, 1, 5);
        TreeSet<Integer> commutators = new TreeSet<>();
        for (int x : slots.get(from)) {
            for (int y : slots.get(from)) {
                commutators.add(commutator(x, y));
            }
        }
        return put(to, madeBy(commutators));
    }

    int order(int slot) {
        needIndex(slot, 0, 5);
        return slots.get(slot).size();
    }

    int rank(int slot) {
        needIndex(slot, 0, 5);
        int x = textElement();
        return slots.get(slot).contains(x) ? slots.get(slot).headSet(x).size() : -1;
    }

    int element(int slot, int rank, int point) {
        needIndex(slot, 0, 5);
        needIndex(rank, 0, slots.get(slot).size());
        needIndex(point, 0, degree);
        return at(new ArrayList<>(slots.get(slot)).get(rank), point);
    }

    int orbit(int slot, int point) {
        needIndex(slot, 0, 5);
        needIndex(point, 0, degree);
        int reached = 0;
        for (int x : slots.get(slot)) {
            reached |= 1 << at(x, point);
        }
        return reached;
    }

    private static void needIndex(int index, int least, int end) {
        if (index < least || index >= end) {
            throw new IndexOutOfBoundsException();
        }
    }

    private static void needState(boolean holds) {
        if (!holds) {
            throw new IllegalStateException();
        }
    }

    private static void needArgument(boolean holds) {
        if (!holds) {
            throw new IllegalArgumentException();
        }
    }

    private int put(int slot, TreeSet<Integer> group) {
        slots.set(slot, group);
        return group.size();
    }

    private static TreeSet<Integer> those(TreeSet<Integer> group, IntPredicate wanted) {
        TreeSet<Integer> some = new TreeSet<>();
        for (int x : group) {
            if (wanted.test(x)) {
                some.add(x);
            }
        }
        return some;
    }

    private TreeSet<Integer> madeBy(Iterable<Integer> elements) {
        List<Integer> makers = new ArrayList<>();
        TreeSet<Integer> group = reachedBy(makers);
        for (int x : elements) {
            if (!group.contains(x)) {
                makers.add(x);
                group = reachedBy(makers);
            }
        }
        return group;
    }

    private TreeSet<Integer> reachedBy(List<Integer> makers) {
        TreeSet<Integer> group = new TreeSet<>(List.of(identity()));
        ArrayDeque<Integer> open = new ArrayDeque<>(group);
        while (!open.isEmpty()) {
            int x = open.remove();
            for (int maker : makers) {
                int next = product(x, maker);
                if (group.add(next)) {
                    open.add(next);
                }
            }
        }
        return group;
    }

    /** The image of each element of slot 0, or null if two ways to an element have different images. */
    private Map<Integer, Integer> mapping() {
        Map<Integer, Integer> mapping = new TreeMap<>(Map.of(identity(), identity()));
        ArrayDeque<Integer> open = new ArrayDeque<>(mapping.keySet());
        while (!open.isEmpty()) {
            int x = open.remove();
            for (int k = 0; k < generators.size(); k++) {
                int next = product(x, generators.get(k));
                int target = product(mapping.get(x), targets.get(k));
                Integer known = mapping.putIfAbsent(next, target);
                if (known == null) {
                    open.add(next);
                } else if (known != target) {
                    return null;
                }
            }
        }
        return mapping;
    }

    // Elements: octal digits, point 0's first, so that numbers are ordered as elements are.

    int identity() {
        return fromImages(new int[] {0, 1, 2, 3, 4, 5, 6});
    }

    private int fromImages(int[] images) {
        int x = 0;
        for (int p = 0; p < degree; p++) {
            x = 8 * x + images[p];
        }
        return x;
    }

    int at(int x, int point) {
        return x >> 3 * (degree - 1 - point) & 7;
    }

    private int product(int x, int y) {
        int z = 0;
        for (int p = 0; p < degree; p++) {
            z = 8 * z + at(y, at(x, p));
        }
        return z;
    }

    private int inverse(int x) {
        int[] images = new int[7];
        for (int p = 0; p < degree; p++) {
            images[at(x, p)] = p;
        }
        return fromImages(images);
    }

    private int commutator(int x, int y) {
        return product(product(inverse(x), inverse(y)), product(x, y));
    }

    // The grammar: each of these answers NO_ELEMENT if its whole text is not of that kind.

    private int textElement() {
        int x = expression(text, 0);
        needArgument(x != NO_ELEMENT);
        return x;
    }

    private int expression(String s, int brackets) {
        for (int cut = 1; cut <= s.length(); cut++) {
            int first = factor(s.substring(0, cut), brackets);
            if (first != NO_ELEMENT && cut == s.length()) {
                return first;
            }
            int rest = first == NO_ELEMENT ? NO_ELEMENT : expression(s.substring(cut), brackets);
            if (rest != NO_ELEMENT) {
                return product(first, rest);
            }
        }
        return NO_ELEMENT;
    }

    private int factor(String s, int brackets) {
        int length = s.length();
        if (s.endsWith("'")) {
            int x = factor(s.substring(0, length - 1), brackets);
            return x == NO_ELEMENT ? x : inverse(x);
        }
        if (POWER.matcher(s).matches()) {
            int x = factor(s.substring(0, length - 2), brackets);
            return x == NO_ELEMENT ? x : power(x, s.charAt(length - 1) - '0');
        }
        return primary(s, brackets);
    }

    private int power(int x, int times) {
        return times == 0 ? identity() : product(power(x, times - 1), x);
    }

    private int primary(String s, int brackets) {
        if (LETTER.matcher(s).matches()) {
            int k = s.charAt(0) - 'a';
            return k < generators.size() ? generators.get(k) : NO_ELEMENT;
        }
        if (CYCLE.matcher(s).matches()) {
            return cycle(s.substring(1, s.length() - 1));
        }
        if (brackets == 4 || s.length() < 3) {
            return NO_ELEMENT;
        }
        String inside = s.substring(1, s.length() - 1);
        if (s.startsWith("{") && s.endsWith("}")) {
            return expression(inside, brackets + 1);
        }
        return s.startsWith("[") && s.endsWith("]") ? commutator(inside, brackets + 1) : NO_ELEMENT;
    }

    private int commutator(String inside, int brackets) {
        for (int comma = inside.indexOf(','); comma >= 0; comma = inside.indexOf(',', comma + 1)) {
            int x = expression(inside.substring(0, comma), brackets);
            int y = x == NO_ELEMENT ? x : expression(inside.substring(comma + 1), brackets);
            if (y != NO_ELEMENT) {
                return commutator(x, y);
            }
        }
        return NO_ELEMENT;
    }

    private int cycle(String digits) {
        int[] images = {0, 1, 2, 3, 4, 5, 6};
        for (int k = 0; k < digits.length(); k++) {
            int point = digits.charAt(k) - '0';
            if (point >= degree || digits.indexOf(digits.charAt(k)) != k) {
                return NO_ELEMENT;
            }
            images[point] = digits.charAt((k + 1) % digits.length()) - '0';
        }
        return fromImages(images);
    }
}
