import java.util.Random;
import java.util.function.IntSupplier;

/** Long runs of calls, always the same ones, on the program and on the slow reference beside it. */
public final class ReferenceTests {
    private static final int RUNS = 3000;
    /** Behind these nothing is promised, so nothing is asked. */
    private static final int CALLS = 512;
    private static final int CALLS_OF_STEPS = 440;
    private static final String CHARACTERS = "abcdefg()[]{},'^0123456789 ~";

    private final Check check;
    private final Random random;
    private final int n;
    private final PermutationDesk desk;
    private final ReferenceDesk reference;
    /** The reference looks at all pairs of elements for derived, so large groups are left to a few runs. */
    private long pairsLeft;
    private int calls;
    private final String name;

    // The two sides must be asked with the same numbers: drawn once, and kept for both.
    private int drawnPoint;
    private int drawnSlot;
    private int drawnTarget;
    private int drawnRank;
    private int drawnSet;

    private ReferenceTests(Check check, int seed) {
        this.check = check;
        random = new Random(seed);
        // Degree 7, where most can go wrong, comes once more often: n & 7 is 6 and 7 there.
        n = seed % 8 + 8 * random.nextInt(3) - 8;
        desk = new PermutationDesk(n);
        reference = new ReferenceDesk(n);
        pairsLeft = seed < 16 ? 30_000_000 : 1_000_000;
        name = "seed " + seed;
    }

    public static void main(String[] args) {
        Check check = new Check("ReferenceTests");
        for (int seed = 0; seed < RUNS && check.isRight(); seed++) {
            new ReferenceTests(check, seed).run();
        }
        check.end();
    }

    private void run() {
        while (calls < CALLS_OF_STEPS) {
            step();
        }
        compareOrders();
        while (calls < CALLS) {
            compareElement();
        }
    }

    private void step() {
        switch (random.nextInt(12)) {
            case 0:
                writeAndGenerate();
                break;
            case 1:
                maybeForget();
                break;
            case 2:
                setImages();
                break;
            case 3:
                write(randomText());
                compare("value", () -> desk.value(drawnPoint), () -> reference.value(drawnPoint));
                break;
            case 4:
                typeOne((char) (random.nextInt(5) == 0 ? random.nextInt(400) : someCharacter()));
                break;
            case 5:
            case 6:
            case 7:
                askGroup();
                break;
            default:
                makeGroup();
        }
    }

    private void draw() {
        drawnPoint = random.nextInt(20) == 0 ? random.nextInt(12) - 3 : random.nextInt(reference.degree);
        drawnSlot = random.nextInt(25) == 0 ? random.nextInt(8) - 2 : random.nextInt(5);
        drawnTarget = random.nextInt(25) == 0 ? random.nextInt(8) - 2 : 1 + random.nextInt(4);
        int size = drawnSlot < 0 || drawnSlot > 4 ? 1 : reference.order(drawnSlot);
        drawnRank = random.nextInt(20) == 0 ? size + random.nextInt(3) - 1 : random.nextInt(size);
        drawnSet = random.nextInt(20) == 0 ? random.nextInt() : random.nextInt(1 << reference.degree);
    }

    private void writeAndGenerate() {
        if (random.nextInt(3) == 0) {
            maybeForget();
        }
        write(random.nextBoolean() ? cycles() : randomText());
        compare("generate", desk::generate, reference::generate);
    }

    private void maybeForget() {
        if (reference.generators.size() > 1 + random.nextInt(5)) {
            compare("forget", () -> done(desk::forget), () -> done(reference::forget));
        }
    }

    private void askGroup() {
        draw();
        switch (random.nextInt(4)) {
            case 0:
                compare("order", () -> desk.order(drawnSlot), () -> reference.order(drawnSlot));
                break;
            case 1:
                if (random.nextBoolean()) {
                    write(randomText());
                }
                compare("rank", () -> desk.rank(drawnSlot), () -> reference.rank(drawnSlot));
                break;
            case 2:
                compareElement();
                break;
            default:
                compare("orbit", () -> desk.orbit(drawnSlot, drawnPoint), () -> reference.orbit(drawnSlot, drawnPoint));
        }
    }

    private void makeGroup() {
        draw();
        boolean whole = random.nextBoolean();
        switch (random.nextInt(6)) {
            case 0:
                compare("stabiliser", () -> desk.stabiliser(drawnSlot, drawnSet, whole, drawnTarget),
                    () -> reference.stabiliser(drawnSlot, drawnSet, whole, drawnTarget));
                break;
            case 1:
                write(randomText());
                compare("centraliser", () -> desk.centraliser(drawnSlot, drawnTarget),
                    () -> reference.centraliser(drawnSlot, drawnTarget));
                break;
            case 2:
                write(random.nextBoolean() ? cycles() : randomText());
                compare("closure", () -> desk.closure(drawnSlot, drawnTarget),
                    () -> reference.closure(drawnSlot, drawnTarget));
                break;
            case 3:
                derive();
                break;
            case 4:
                compare("kernel", () -> desk.kernel(drawnTarget), () -> reference.kernel(drawnTarget));
                break;
            default:
                compare("images", () -> desk.images(drawnTarget), () -> reference.images(drawnTarget));
        }
    }

    private void derive() {
        long size = drawnSlot < 0 || drawnSlot > 4 ? 0 : reference.order(drawnSlot);
        if (size * size <= pairsLeft) {
            pairsLeft -= size * size;
            compare("derived", () -> desk.derived(drawnSlot, drawnTarget),
                () -> reference.derived(drawnSlot, drawnTarget));
        }
    }

    /** Images by one plan, since images at random are hardly ever a homomorphism. */
    private void setImages() {
        int plan = random.nextInt(6);
        String cycle = shortCycle();
        char digit = (char) ('0' + random.nextInt(10));
        for (int k = 0; k < reference.generators.size(); k++) {
            write(plannedImage(plan, k, cycle, digit));
            int generator = random.nextInt(30) == 0 ? random.nextInt(9) - 1 : k;
            compare("image", () -> done(() -> desk.image(generator)), () -> done(() -> reference.image(generator)));
        }
        compare("extend", () -> desk.extend() ? 1 : 0, () -> reference.extend() ? 1 : 0);
        draw();
        compare("kernel", () -> desk.kernel(drawnTarget), () -> reference.kernel(drawnTarget));
    }

    private String plannedImage(int plan, int k, String cycle, char digit) {
        String letter = "" + (char) ('a' + k);
        switch (plan) {
            case 0:
                return letter;
            case 1:
                return cycle + "'" + letter + cycle;
            case 2:
                return isOdd(reference.generators.get(k)) ? "(01)" : "()";
            case 3:
                return letter + "^" + digit;
            case 4:
                return "()";
            default:
                return cycles();
        }
    }

    private boolean isOdd(int x) {
        int turned = 0;
        for (int p = 0; p < reference.degree; p++) {
            for (int q = 0; q < p; q++) {
                turned += reference.at(x, q) > reference.at(x, p) ? 1 : 0;
            }
        }
        return turned % 2 == 1;
    }

    private static int done(Runnable call) {
        call.run();
        return 0;
    }

    private void compare(String call, IntSupplier program, IntSupplier slow) {
        if (calls >= CALLS) {
            return;
        }
        calls++;
        check.text(name + ", call " + calls + ", " + call + ", text " + reference.text, answer(program), answer(slow));
    }

    private static String answer(IntSupplier call) {
        try {
            return "" + call.getAsInt();
        } catch (RuntimeException e) {
            return e.getClass().getName();
        }
    }

    private void compareOrders() {
        for (int k = 0; k < 5; k++) {
            int slot = k;
            compare("order", () -> desk.order(slot), () -> reference.order(slot));
        }
    }

    private void compareElement() {
        draw();
        compare("element", () -> desk.element(drawnSlot, drawnRank, drawnPoint),
            () -> reference.element(drawnSlot, drawnRank, drawnPoint));
    }

    private void write(String text) {
        compare("wipe", () -> done(desk::wipe), () -> done(reference::wipe));
        for (char c : text.toCharArray()) {
            typeOne(c);
        }
        draw();
    }

    private void typeOne(char c) {
        compare("type", () -> desk.type(c) ? 1 : 0, () -> reference.type(c) ? 1 : 0);
    }

    private char someCharacter() {
        return CHARACTERS.charAt(random.nextInt(CHARACTERS.length()));
    }

    private String randomText() {
        StringBuilder text = new StringBuilder(expression(random.nextInt(6)));
        while (text.length() > 24) {
            text = new StringBuilder(expression(random.nextInt(3)));
        }
        if (random.nextInt(8) == 0 && text.length() > 0) {
            int where = random.nextInt(text.length());
            if (random.nextBoolean()) {
                text.setCharAt(where, someCharacter());
            } else if (random.nextBoolean()) {
                text.deleteCharAt(where);
            } else {
                text.insert(where, someCharacter());
            }
        }
        return text.toString();
    }

    private String expression(int depth) {
        StringBuilder text = new StringBuilder();
        for (int k = random.nextInt(3); k >= 0; k--) {
            text.append(primary(depth));
            while (random.nextInt(4) == 0) {
                text.append(random.nextBoolean() ? "'" : "^" + random.nextInt(10));
            }
        }
        return text.toString();
    }

    private String primary(int depth) {
        int count = reference.generators.size();
        if (depth > 0 && random.nextInt(3) > 0) {
            return random.nextBoolean() ? "{" + expression(depth - 1) + "}"
                : "[" + expression(depth - 1) + "," + expression(random.nextInt(depth)) + "]";
        }
        return count > 0 && random.nextBoolean() ? "" + (char) ('a' + random.nextInt(count)) : shortCycle();
    }

    /** A cycle of few points, so that groups are not always the whole one. */
    private String shortCycle() {
        StringBuilder cycle = new StringBuilder();
        for (int k = random.nextInt(4); k > 0; k--) {
            int point = random.nextInt(reference.degree);
            if (cycle.indexOf("" + point) < 0) {
                cycle.append(point);
            }
        }
        return "(" + cycle + ")";
    }

    private String cycles() {
        StringBuilder all = new StringBuilder("(");
        StringBuilder points = new StringBuilder("0123456".substring(0, reference.degree));
        while (points.length() > 0 && random.nextInt(9) > 0) {
            int where = random.nextInt(points.length());
            all.append(random.nextInt(3) == 0 ? ")(" : "").append(points.charAt(where));
            points.deleteCharAt(where);
        }
        return all + ")";
    }
}
