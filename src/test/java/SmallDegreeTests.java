import java.util.ArrayList;
import java.util.Arrays;
import java.util.BitSet;
import java.util.List;

/**
 * Degrees 1 to 4 without gaps: every group that two generators make, written in every way, with every set, every
 * text's element and every pair of images. Elements are numbered in their order, groups are sets of such numbers.
 */
public final class SmallDegreeTests {
    private static final int MOST_POINTS = 4;
    /** One step, two groups of 24 elements at the most, takes up to 165 calls, and a desk takes 512 in all. */
    private static final int CALLS_BEFORE_NEW = 340;

    private final Check check;
    private final int points;
    private final List<int[]> elements = new ArrayList<>();
    private final String[] texts;
    private final int[][] products;
    private int a;
    private int b;
    private PermutationDesk desk;
    private int calls;

    private SmallDegreeTests(Check check, int points) {
        this.check = check;
        this.points = points;
        collect(new int[points], 0);
        texts = new String[elements.size()];
        for (int x = 0; x < texts.length; x++) {
            texts[x] = cycles(elements.get(x));
        }
        products = new int[texts.length][texts.length];
        for (int x = 0; x < texts.length; x++) {
            for (int y = 0; y < texts.length; y++) {
                products[x][y] = number(product(elements.get(x), elements.get(y)));
            }
        }
    }

    public static void main(String[] args) {
        Check check = new Check("SmallDegreeTests");
        for (int points = 1; points <= MOST_POINTS; points++) {
            new SmallDegreeTests(check, points).run();
        }
        check.end();
    }

    private void run() {
        for (a = 0; a < texts.length && check.isRight(); a++) {
            for (b = 0; b < texts.length; b++) {
                takeNewDesk();
                BitSet group = madeBy(a, b);
                compareGroup("slot 0", 0, group);
                compareRanks(group);
                compareOrbits(group);
                compareSubgroups(group);
                compareStabilisers(group);
                compareHomomorphisms();
            }
        }
    }

    private void compareRanks(BitSet group) {
        for (int x = 0; x < texts.length; x++) {
            makeRoom();
            write(x);
            int due = group.get(x) ? group.get(0, x).cardinality() : -1;
            same("rank of " + texts[x], desk.rank(0), due);
        }
    }

    private void compareOrbits(BitSet group) {
        for (int p = 0; p < points; p++) {
            makeRoom();
            int due = 0;
            for (int x = group.nextSetBit(0); x >= 0; x = group.nextSetBit(x + 1)) {
                due |= 1 << elements.get(x)[p];
            }
            same("orbit of " + p, desk.orbit(0, p), due);
        }
    }

    private void compareSubgroups(BitSet group) {
        compareMade("derived", desk.derived(0, 1), commutators(group));
        for (int y = 0; y < texts.length; y++) {
            makeRoom();
            write(y);
            compareMade("centraliser of " + texts[y], desk.centraliser(0, 1), commuting(group, y));
            compareMade("closure of " + texts[y], desk.closure(0, 1), conjugates(group, y));
        }
    }

    private void compareStabilisers(BitSet group) {
        for (int set = 0; set < 1 << points; set++) {
            makeRoom();
            compareMade("stabiliser of " + set, desk.stabiliser(0, set, false, 1), keeping(group, set, false));
            compareMade("stabiliser of all " + set, desk.stabiliser(0, set, true, 1), keeping(group, set, true));
        }
    }

    private void compareHomomorphisms() {
        for (int x = 0; x < texts.length; x++) {
            for (int y = 0; y < texts.length; y++) {
                makeRoom();
                write(x);
                desk.image(0);
                write(y);
                desk.image(1);
                calls += 2;
                compareImages(x, y);
            }
        }
    }

    private void compareImages(int x, int y) {
        String what = " of a to " + texts[x] + " and b to " + texts[y];
        int[] mapping = mapping(x, y);
        same("extend" + what, desk.extend() ? 1 : 0, mapping == null ? 0 : 1);
        calls++;
        if (mapping == null) {
            check.state(told("kernel" + what), () -> desk.kernel(1));
            return;
        }
        compareMade("kernel" + what, desk.kernel(1), kernel(mapping));
        compareMade("images" + what, desk.images(1), madeBy(x, y));
    }

    /** A call that put a group into slot 1 has answered, and that group is looked at. */
    private void compareMade(String what, int answer, BitSet due) {
        same(what, answer, due.cardinality());
        compareGroup(what, 1, due);
    }

    private void compareGroup(String what, int slot, BitSet due) {
        same(what + ", order", desk.order(slot), due.cardinality());
        int rank = 0;
        for (int x = due.nextSetBit(0); x >= 0; x = due.nextSetBit(x + 1)) {
            // The last point goes where no other one goes.
            for (int p = 0; p < points - 1; p++) {
                same(what + ", element " + rank + " at " + p, desk.element(slot, rank, p), elements.get(x)[p]);
            }
            rank++;
        }
    }

    private void same(String what, int got, int due) {
        calls++;
        check.same(got == due ? "" : told(what), got, due);
    }

    private String told(String what) {
        return "degree " + points + ", a " + texts[a] + ", b " + texts[b] + ": " + what;
    }

    private void makeRoom() {
        if (calls > CALLS_BEFORE_NEW) {
            takeNewDesk();
        }
    }

    private void takeNewDesk() {
        desk = new PermutationDesk(points - 1);
        calls = 2;
        write(a);
        desk.generate();
        write(b);
        desk.generate();
    }

    private void write(int x) {
        Check.write(desk, texts[x]);
        calls += 1 + texts[x].length();
    }

    /** All permutations, in their order: the images of the points before the next one are settled. */
    private void collect(int[] settled, int next) {
        if (next == points) {
            elements.add(settled.clone());
            return;
        }
        for (int to = 0; to < points; to++) {
            settled[next] = to;
            if (Arrays.stream(settled, 0, next).allMatch(before -> before != settled[next])) {
                collect(settled, next + 1);
            }
        }
    }

    private static String cycles(int[] x) {
        StringBuilder text = new StringBuilder();
        boolean[] seen = new boolean[x.length];
        for (int p = 0; p < x.length; p++) {
            if (!seen[p] && x[p] != p) {
                text.append('(');
                for (int q = p; !seen[q]; q = x[q]) {
                    text.append(q);
                    seen[q] = true;
                }
                text.append(')');
            }
        }
        return text.length() == 0 ? "()" : text.toString();
    }

    private int number(int[] x) {
        for (int k = 0; k < elements.size(); k++) {
            if (Arrays.equals(elements.get(k), x)) {
                return k;
            }
        }
        throw new IllegalStateException("no permutation");
    }

    /** First x, then y. */
    private static int[] product(int[] x, int[] y) {
        int[] z = new int[x.length];
        for (int p = 0; p < x.length; p++) {
            z[p] = y[x[p]];
        }
        return z;
    }

    private int product(int x, int y) {
        return products[x][y];
    }

    private int inverse(int x) {
        int y = 0;
        while (products[x][y] != 0) {
            y++;
        }
        return y;
    }

    private BitSet madeBy(int... makers) {
        BitSet group = new BitSet();
        List<Integer> found = new ArrayList<>(List.of(0));
        group.set(0);
        for (int k = 0; k < found.size(); k++) {
            for (int maker : makers) {
                int next = product(found.get(k), maker);
                if (!group.get(next)) {
                    group.set(next);
                    found.add(next);
                }
            }
        }
        return group;
    }

    private BitSet commutators(BitSet group) {
        BitSet some = new BitSet();
        group.stream().forEach(x -> group.stream().forEach(
                y -> some.set(product(product(inverse(x), inverse(y)), product(x, y)))));
        return madeBy(some.stream().toArray());
    }

    private BitSet conjugates(BitSet group, int y) {
        return madeBy(group.stream().map(x -> product(product(inverse(x), y), x)).toArray());
    }

    private BitSet commuting(BitSet group, int y) {
        BitSet some = new BitSet();
        group.stream().filter(x -> product(x, y) == product(y, x)).forEach(some::set);
        return some;
    }

    private BitSet keeping(BitSet group, int set, boolean whole) {
        BitSet some = new BitSet();
        group.stream().filter(x -> keeps(elements.get(x), set, whole)).forEach(some::set);
        return some;
    }

    private static boolean keeps(int[] x, int set, boolean whole) {
        for (int p = 0; p < x.length; p++) {
            boolean isIn = (set & 1 << p) != 0;
            if (isIn && !whole && x[p] != p || isIn && whole && (set & 1 << x[p]) == 0) {
                return false;
            }
        }
        return true;
    }

    /** The image of each element of slot 0 if a goes to x and b to y, -1 for the others; null if one has two. */
    private int[] mapping(int x, int y) {
        int[] images = new int[texts.length];
        Arrays.fill(images, -1);
        images[0] = 0;
        List<Integer> found = new ArrayList<>(List.of(0));
        for (int k = 0; k < found.size(); k++) {
            int from = found.get(k);
            if (!follow(images, found, product(from, a), product(images[from], x))
                    || !follow(images, found, product(from, b), product(images[from], y))) {
                return null;
            }
        }
        return images;
    }

    private static boolean follow(int[] images, List<Integer> found, int next, int image) {
        if (images[next] < 0) {
            images[next] = image;
            found.add(next);
        }
        return images[next] == image;
    }

    private static BitSet kernel(int[] mapping) {
        BitSet some = new BitSet();
        for (int x = 0; x < mapping.length; x++) {
            if (mapping[x] == 0) {
                some.set(x);
            }
        }
        return some;
    }
}
