import java.util.Arrays;

/** Reckons with groups of permutations of at most seven points, as its document promises. */
public final class PermutationDesk {
    private static final int MOST_POINTS = 7;
    private static final int SLOTS = 5;
    private static final int MOST_GENERATORS = 6;
    private static final int LONGEST_TEXT = 24;
    private static final int MOST_BRACKETS = 4;
    private static final long NONE = -1L;

    private final int degree;
    private final char[] text;
    private int textLength;
    private final long[] generators;
    private final long[] targets;
    private int generatorCount;
    private final Group[] slots;
    private Group work;
    private final Group pairs;

    public PermutationDesk(int n) {
        degree = Math.min(MOST_POINTS, 1 + (n & 7));
        text = new char[LONGEST_TEXT];
        textLength = 0;
        generators = new long[MOST_GENERATORS];
        targets = new long[MOST_GENERATORS];
        generatorCount = 0;
        slots = new Group[SLOTS];
        for (int slot = 0; slot < SLOTS; slot++) {
            slots[slot] = new Group(degree);
        }
        work = new Group(degree);
        pairs = new Group(2 * degree);
    }

    public boolean type(char c) {
        if (c < 32 || c > 126 || textLength >= LONGEST_TEXT) {
            return false;
        }
        text[textLength] = c;
        textLength++;
        return true;
    }

    public void wipe() {
        textLength = 0;
    }

    public int value(int point) throws IllegalArgumentException, IndexOutOfBoundsException {
        long x = textElement();
        needPoint(point);
        return Elements.at(x, point);
    }

    public int generate() throws IllegalArgumentException, IllegalStateException {
        long x = textElement();
        if (generatorCount >= MOST_GENERATORS) {
            throw new IllegalStateException("there are six generators");
        }
        generators[generatorCount] = x;
        targets[generatorCount] = NONE;
        generatorCount++;
        slots[0].add(x);
        return generatorCount;
    }

    public void forget() {
        generatorCount = 0;
        slots[0].clear();
    }

    public void image(int k) throws IllegalArgumentException, IndexOutOfBoundsException {
        long x = textElement();
        if (k < 0 || k >= generatorCount) {
            throw new IndexOutOfBoundsException("no such generator");
        }
        targets[k] = x;
    }

    public boolean extend() throws IllegalStateException {
        needTargets();
        return isHomomorphism();
    }

    public int kernel(int to) throws IndexOutOfBoundsException, IllegalStateException {
        needTargetSlot(to);
        needTargets();
        if (!isHomomorphism()) {
            throw new IllegalStateException("the images are no homomorphism");
        }
        work.takeSecondParts(pairs);
        return storeWork(to);
    }

    public int images(int to) throws IndexOutOfBoundsException, IllegalStateException {
        needTargetSlot(to);
        needTargets();
        work.clear();
        for (int k = 0; k < generatorCount; k++) {
            work.add(targets[k]);
        }
        return storeWork(to);
    }

    public int stabiliser(int from, int set, boolean whole, int to)
            throws IndexOutOfBoundsException, IllegalArgumentException {
        needSlot(from);
        needTargetSlot(to);
        if ((set >>> degree) != 0) {
            throw new IllegalArgumentException("the set has bits that are no point's");
        }
        work.gather(slots[from], new KeepsSet(set, whole));
        return storeWork(to);
    }

    public int centraliser(int from, int to) throws IndexOutOfBoundsException, IllegalArgumentException {
        needSlot(from);
        needTargetSlot(to);
        work.gather(slots[from], new CommutesWith(textElement()));
        return storeWork(to);
    }

    public int closure(int from, int to) throws IndexOutOfBoundsException, IllegalArgumentException {
        needSlot(from);
        needTargetSlot(to);
        long y = textElement();
        work.clear();
        work.add(y);
        work.addConjugates(slots[from]);
        return storeWork(to);
    }

    public int derived(int from, int to) throws IndexOutOfBoundsException {
        needSlot(from);
        needTargetSlot(to);
        work.clear();
        work.addCommutators(slots[from]);
        work.addConjugates(slots[from]);
        return storeWork(to);
    }

    public int order(int slot) throws IndexOutOfBoundsException {
        needSlot(slot);
        return slots[slot].size();
    }

    public int rank(int slot) throws IndexOutOfBoundsException, IllegalArgumentException {
        needSlot(slot);
        return slots[slot].placeOf(textElement());
    }

    public int element(int slot, int rank, int point) throws IndexOutOfBoundsException {
        needSlot(slot);
        needPoint(point);
        if (rank < 0 || rank >= slots[slot].size()) {
            throw new IndexOutOfBoundsException("no such element");
        }
        return Elements.at(slots[slot].atPlace(rank), point);
    }

    public int orbit(int slot, int point) throws IndexOutOfBoundsException {
        needSlot(slot);
        needPoint(point);
        return slots[slot].reach(point);
    }

    private long textElement() {
        Reader reader = new Reader(text, textLength, generators, generatorCount, degree);
        long x = reader.expression(0);
        if (!reader.hasReadAll()) {
            throw new IllegalArgumentException("the text is no expression");
        }
        return x;
    }

    private void needPoint(int point) {
        if (point < 0 || point >= degree) {
            throw new IndexOutOfBoundsException("no such point");
        }
    }

    private void needSlot(int slot) {
        if (slot < 0 || slot >= SLOTS) {
            throw new IndexOutOfBoundsException("no such slot");
        }
    }

    private void needTargetSlot(int slot) {
        if (slot < 1 || slot >= SLOTS) {
            throw new IndexOutOfBoundsException("no slot that takes a group");
        }
    }

    private void needTargets() {
        for (int k = 0; k < generatorCount; k++) {
            if (targets[k] == NONE) {
                throw new IllegalStateException("a generator has no image");
            }
        }
    }

    /**
     * The pairs (image, generator) make a group that lies over slot 0. It has as many elements as slot 0
     * just if no element of slot 0 stands in two pairs, and that is what a homomorphism is.
     */
    private boolean isHomomorphism() {
        pairs.clear();
        for (int k = 0; k < generatorCount; k++) {
            pairs.add(Elements.pair(targets[k], generators[k], degree));
        }
        return pairs.size() == slots[0].size();
    }

    /** Groups are reckoned in work, since the slot that takes one may be the slot that it is made from. */
    private int storeWork(int to) {
        Group old = slots[to];
        slots[to] = work;
        work = old;
        return slots[to].size();
    }

    /**
     * Elements as numbers, four bits for the image of each point, point 0's the lowest: so an element needs
     * no object, and a pair of elements, side by side on fourteen points, is one number too.
     */
    private static final class Elements {
        static long identity(int points) {
            long x = 0;
            for (int p = 0; p < points; p++) {
                x |= (long) p << (4 * p);
            }
            return x;
        }

        static int at(long x, int point) {
            return (int) (x >>> (4 * point)) & 15;
        }

        static long with(long x, int point, int to) {
            return (x & ~(15L << (4 * point))) | ((long) to << (4 * point));
        }

        /** First x, then y. */
        static long product(long x, long y, int points) {
            long z = 0;
            for (int shift = 0; shift < 4 * points; shift += 4) {
                int middle = (int) (x >>> shift) & 15;
                z |= (y >>> (4 * middle) & 15L) << shift;
            }
            return z;
        }

        static long inverse(long x, int points) {
            long z = 0;
            for (int p = 0; p < points; p++) {
                z |= (long) p << (4 * ((int) (x >>> (4 * p)) & 15));
            }
            return z;
        }

        static long power(long x, int times, int points) {
            long z = identity(points);
            for (int turn = 0; turn < times; turn++) {
                z = product(z, x, points);
            }
            return z;
        }

        /** x' y x: it takes what x makes of a point to what x makes of where y takes that point. */
        static long conjugate(long y, long x, int points) {
            long z = 0;
            for (int p = 0; p < points; p++) {
                z |= (long) at(x, at(y, p)) << (4 * at(x, p));
            }
            return z;
        }

        /** x' y' x y: it takes what y x makes of a point to what x y makes of it. */
        static long commutator(long x, long y, int points) {
            long z = 0;
            for (int p = 0; p < points; p++) {
                z |= (long) at(y, at(x, p)) << (4 * at(x, at(y, p)));
            }
            return z;
        }

        /** One element that does what first does on the lower points, and what second does on as many above. */
        static long pair(long first, long second, int points) {
            long x = first;
            for (int p = 0; p < points; p++) {
                x |= (long) (points + at(second, p)) << (4 * (points + p));
            }
            return x;
        }

        static long secondOf(long pair, int points) {
            long x = 0;
            for (int p = 0; p < points; p++) {
                x |= (long) (at(pair, points + p) - points) << (4 * p);
            }
            return x;
        }
    }

    /** What the elements of a subgroup have that the others lack. */
    private interface Condition {
        /** False only if no element with x's images of the points below settled meets the condition. */
        boolean allows(long x, int settled);
    }

    private static final class KeepsSet implements Condition {
        private final int set;
        private final boolean whole;

        KeepsSet(int set, boolean whole) {
            this.set = set;
            this.whole = whole;
        }

        public boolean allows(long x, int settled) {
            for (int p = 0; p < settled; p++) {
                if (isInSet(p) && !mayGo(p, Elements.at(x, p))) {
                    return false;
                }
            }
            return true;
        }

        private boolean mayGo(int point, int to) {
            return whole ? isInSet(to) : to == point;
        }

        private boolean isInSet(int point) {
            return (set >>> point & 1) == 1;
        }
    }

    private static final class CommutesWith implements Condition {
        private final long y;

        CommutesWith(long y) {
            this.y = y;
        }

        public boolean allows(long x, int settled) {
            for (int p = 0; p < settled; p++) {
                int next = Elements.at(y, p);
                if (next < settled && Elements.at(x, next) != Elements.at(y, Elements.at(x, p))) {
                    return false;
                }
            }
            return true;
        }
    }

    /**
     * A group, held as steps: for each level k and point i an element that leaves the points below k where
     * they are and takes k to i, if the group has one. Each element of the group is in one way only a
     * product of a step from every level, the deepest first; so a few dozen numbers hold any group, and
     * tell its order and its elements by rank.
     */
    private static final class Group {
        private final int points;
        private final long identity;
        private final long[] steps;
        private final long[] makers;
        private final int[] makerLevels;
        private int makerCount;

        Group(int points) {
            this.points = points;
            identity = Elements.identity(points);
            steps = new long[points * points];
            makers = new long[points * (points - 1) / 2];
            makerLevels = new int[points * (points - 1) / 2];
            clear();
        }

        /** The identity alone is left. */
        void clear() {
            Arrays.fill(steps, NONE);
            for (int level = 0; level < points; level++) {
                steps[level * points + level] = identity;
            }
            makerCount = 0;
        }

        int size() {
            return sizeBelow(-1);
        }

        /** How many elements leave all points up to level where they are. */
        private int sizeBelow(int level) {
            int size = 1;
            for (int k = level + 1; k < points; k++) {
                size *= width(k);
            }
            return size;
        }

        private int width(int level) {
            int width = 0;
            for (int to = level; to < points; to++) {
                if (step(level, to) != NONE) {
                    width++;
                }
            }
            return width;
        }

        private long step(int level, int to) {
            if (level < 0 || level >= points || to < 0 || to >= points) {
                return NONE;
            }
            return steps[level * points + to];
        }

        private void putStep(int level, int to, long x) {
            if (level < 0 || to <= level || to >= points || makerCount >= makers.length) {
                return;
            }
            steps[level * points + to] = x;
            makers[makerCount] = x;
            makerLevels[makerCount] = level;
            makerCount++;
        }

        /** The group becomes the one made by it and x. */
        void add(long x) {
            int done = makerCount;
            enter(x);
            for (int a = done; a < makerCount && a < makers.length; a++) {
                for (int b = 0; b <= a; b++) {
                    enterProducts(a, b);
                }
            }
        }

        /** The steps hold a whole group as soon as they hold the product of any two of them. */
        private void enterProducts(int a, int b) {
            // A deeper step before a higher one is held already: it is how elements are put together.
            if (makerLevels[a] <= makerLevels[b]) {
                enter(Elements.product(makers[a], makers[b], points));
            }
            if (makerLevels[b] <= makerLevels[a]) {
                enter(Elements.product(makers[b], makers[a], points));
            }
        }

        /** Takes the steps off x, the last one first; what is left where a step is missing is that step. */
        private void enter(long x) {
            long rest = x;
            for (int level = 0; level < points && rest != identity; level++) {
                int to = Elements.at(rest, level);
                long step = step(level, to);
                if (step == NONE) {
                    putStep(level, to, rest);
                    return;
                }
                if (to != level) {
                    rest = Elements.product(rest, Elements.inverse(step, points), points);
                }
            }
        }

        /** The group becomes the least one that has it and that the elements of another one conjugate into itself. */
        void addConjugates(Group by) {
            for (int a = 0; a < makerCount && a < makers.length; a++) {
                for (int b = 0; b < by.makerCount; b++) {
                    add(Elements.conjugate(makers[a], by.makers[b], points));
                }
            }
        }

        /** Those of the steps are enough: with all their conjugates they make those of all elements. */
        void addCommutators(Group of) {
            for (int a = 0; a < of.makerCount; a++) {
                for (int b = 0; b < a; b++) {
                    add(Elements.commutator(of.makers[a], of.makers[b], points));
                }
            }
        }

        /** The group becomes the elements of another one that meet a condition, which must be a group. */
        void gather(Group from, Condition condition) {
            clear();
            for (int level = 0; level < points; level++) {
                for (int to = level + 1; to < points; to++) {
                    long step = from.step(level, to);
                    long x = step == NONE ? NONE : from.search(level + 1, step, condition);
                    if (x != NONE) {
                        putStep(level, to, x);
                    }
                }
            }
        }

        /** An element that has x's images of the points below level and meets the condition, or NONE. */
        private long search(int level, long x, Condition condition) {
            if (!condition.allows(x, level)) {
                return NONE;
            }
            if (level >= points) {
                return x;
            }
            for (int to = level; to < points; to++) {
                long step = step(level, to);
                long found = step == NONE ? NONE
                        : search(level + 1, Elements.product(step, x, points), condition);
                if (found != NONE) {
                    return found;
                }
            }
            return NONE;
        }

        /** The group becomes the second parts of those pairs whose first part is the identity. */
        void takeSecondParts(Group pairs) {
            clear();
            for (int level = 0; level < points; level++) {
                for (int to = level + 1; to < points; to++) {
                    long pair = pairs.step(points + level, points + to);
                    if (pair != NONE) {
                        putStep(level, to, Elements.secondOf(pair, points));
                    }
                }
            }
        }

        /** How many elements are less than x, or -1 if the group lacks x. */
        int placeOf(long x) {
            int place = 0;
            long like = identity;
            for (int level = 0; level < points; level++) {
                int wanted = Elements.at(x, level);
                long step = step(level, Elements.at(Elements.inverse(like, points), wanted));
                if (step == NONE) {
                    return -1;
                }
                place = place * width(level) + lesserSteps(level, like, wanted);
                like = Elements.product(step, like, points);
            }
            return place;
        }

        /** How many steps of a level, with an element behind them, take it to a point less than the one wanted. */
        private int lesserSteps(int level, long behind, int wanted) {
            int lesser = 0;
            for (int to = level; to < points; to++) {
                if (step(level, to) != NONE && Elements.at(behind, to) < wanted) {
                    lesser++;
                }
            }
            return lesser;
        }

        /** The element before which there are so many lesser ones. */
        long atPlace(int place) {
            int left = place;
            long x = identity;
            for (int level = 0; level < points; level++) {
                int size = sizeBelow(level);
                long behind = Elements.inverse(x, points);
                long step = NONE;
                for (int wanted = 0; wanted < points && step == NONE; wanted++) {
                    step = step(level, Elements.at(behind, wanted));
                    if (step != NONE && left >= size) {
                        left -= size;
                        step = NONE;
                    }
                }
                x = step == NONE ? x : Elements.product(step, x, points);
            }
            return x;
        }

        /** Where the elements take a point: bit p for point p. */
        int reach(int point) {
            int reached = 1 << point;
            for (int turn = 1; turn < points; turn++) {
                for (int k = 0; k < makerCount; k++) {
                    reached |= takenFrom(reached, makers[k]);
                }
            }
            return reached;
        }

        private int takenFrom(int set, long x) {
            int taken = 0;
            for (int p = 0; p < points; p++) {
                if ((set >>> p & 1) == 1) {
                    taken |= 1 << Elements.at(x, p);
                }
            }
            return taken;
        }
    }

    /** Reads a text once, as an expression. */
    private static final class Reader {
        private static final char END = 0;

        private final char[] text;
        private final int length;
        private final long[] letters;
        private final int letterCount;
        private final int points;
        private int at;
        private boolean broken;

        Reader(char[] text, int length, long[] letters, int letterCount, int points) {
            this.text = text;
            this.length = length;
            this.letters = letters;
            this.letterCount = letterCount;
            this.points = points;
            at = 0;
            broken = false;
        }

        /** Whether what was read was an expression, and nothing stood behind it. */
        boolean hasReadAll() {
            return !broken && at == length;
        }

        /** An expression that stands in so many brackets; what it answers counts for nothing if it is broken. */
        private long expression(int brackets) {
            long x = factor(brackets);
            for (int turn = 1; turn < LONGEST_TEXT && !broken && !isExpressionOver(); turn++) {
                x = Elements.product(x, factor(brackets), points);
            }
            return x;
        }

        private boolean isExpressionOver() {
            char c = look();
            return c == END || c == ',' || c == ']' || c == '}';
        }

        private long factor(int brackets) {
            long x = primary(brackets);
            for (int turn = 0; turn < LONGEST_TEXT && !broken; turn++) {
                char sign = look();
                if (sign != '\'' && sign != '^') {
                    return x;
                }
                at++;
                x = sign == '^' ? Elements.power(x, exponent(), points) : Elements.inverse(x, points);
            }
            return x;
        }

        private int exponent() {
            char c = take();
            if (c < '0' || c > '9') {
                broken = true;
                return 0;
            }
            return c - '0';
        }

        private long primary(int brackets) {
            char c = take();
            if (c == '(') {
                return cycle();
            }
            if (c == '[' && brackets < MOST_BRACKETS) {
                return commutator(brackets + 1);
            }
            if (c == '{' && brackets < MOST_BRACKETS) {
                long x = expression(brackets + 1);
                expect('}');
                return x;
            }
            int letter = c - 'a';
            if (letter >= 0 && letter < letterCount && letter < letters.length) {
                return letters[letter];
            }
            broken = true;
            return NONE;
        }

        private long cycle() {
            long x = Elements.identity(points);
            int first = -1;
            int last = -1;
            int seen = 0;
            for (int turn = 0; turn <= points; turn++) {
                char c = take();
                if (c == ')') {
                    return last < 0 ? x : Elements.with(x, last, first);
                }
                int point = c - '0';
                if (point < 0 || point >= points || (seen >>> point & 1) == 1) {
                    break;
                }
                first = last < 0 ? point : first;
                x = last < 0 ? x : Elements.with(x, last, point);
                last = point;
                seen |= 1 << point;
            }
            broken = true;
            return NONE;
        }

        private long commutator(int brackets) {
            long x = expression(brackets);
            expect(',');
            long y = broken ? NONE : expression(brackets);
            expect(']');
            return broken ? NONE : Elements.commutator(x, y, points);
        }

        private void expect(char wanted) {
            if (look() != wanted) {
                broken = true;
            }
            at++;
        }

        private char look() {
            return at < length && at < text.length ? text[at] : END;
        }

        private char take() {
            char c = look();
            at++;
            return c;
        }
    }
}
