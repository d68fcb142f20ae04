import java.util.ArrayList;
import java.util.List;
import java.util.function.Supplier;

/**
 * Every reason to refuse a call: which exception is thrown, which one where two apply, and that the refused call
 * has left all as it was. For that, two desks are made by the same calls, one of them is asked what it refuses, and
 * then both must answer all questions alike. Each question has two new desks, since some questions change the desk.
 */
public final class RefusalTests {
    private static final Check check = new Check("RefusalTests");
    private static final String ARGUMENT = "IllegalArgumentException";
    private static final String INDEX = "IndexOutOfBoundsException";
    private static final String STATE = "IllegalStateException";
    private static final int DEGREE = 4;
    private static final String FULL = "{a}{a}{a}{a}{a}{a}{a}{a}";

    private static final List<Check.Call> QUESTIONS = questions();

    public static void main(String[] args) {
        theQuestionsTellDesksApart();
        check.sentence("Exceptions leave all as it was; the first one named that applies is thrown.");
        textAndPoint();
        textAndGenerators();
        textAndGenerator();
        missingImages();
        targetAndHomomorphism();
        slotsAndSet();
        slotsAndText();
        slotsAndPoints();
        refusedOneAfterTheOther();
        check.sentence("false, refused, if it is not 32 .. 126 or 24 are there.");
        characters();
        check.sentence("A call of the face throws exactly what and where the document says (LANGUAGE.md, rule 6)");
        brokenTextThatNobodyReads();
        check.end();
    }

    // Desks: degree 4, all groups of different orders, and a text that says nothing else of the desk says.

    /** Slots of 8, 4, 2, 1 and 3 elements, images that are a homomorphism, and a text. */
    private static PermutationDesk ready(String text) {
        PermutationDesk desk = Check.desk(DEGREE, "(0123)", "(01)");
        Check.write(desk, "(012)").centraliser(0, 4);
        desk.forget();
        Check.write(desk, "(0123)").generate();
        Check.write(desk, "(02)").generate();
        Check.write(desk, "a").closure(0, 1);
        desk.derived(0, 2);
        Check.images(desk, "(01)", "(23)");
        return Check.write(desk, text);
    }

    private static PermutationDesk wrongImages(String text) {
        PermutationDesk desk = ready("(012)");
        desk.image(1);
        return Check.write(desk, text);
    }

    private static PermutationDesk missingImage(String text) {
        PermutationDesk desk = ready("(13)");
        desk.generate();
        return Check.write(desk, text);
    }

    private static PermutationDesk sixGenerators(String text) {
        PermutationDesk desk = ready("()");
        for (int k = 2; k < 6; k++) {
            Check.write(desk, "()").generate();
            Check.write(desk, "(01)(23)").image(k);
        }
        return Check.write(desk, text);
    }

    private static List<Check.Call> questions() {
        List<Check.Call> all = new ArrayList<>();
        all.add(RefusalTests::textTold);
        all.add(RefusalTests::textToldWhenClosed);
        all.add(RefusalTests::roomTold);
        all.add(RefusalTests::lettersTold);
        all.add(RefusalTests::generatorsTold);
        all.add(RefusalTests::homomorphismTold);
        for (int k = 0; k < 6; k++) {
            int generator = k;
            all.add(desk -> imageTold(desk, generator));
        }
        for (int k = 0; k < 5; k++) {
            int slot = k;
            all.add(desk -> Check.elements(desk, DEGREE, slot));
            all.add(desk -> orbitsTold(desk, slot));
            all.add(desk -> Check.answer(desk, d -> d.rank(slot)) + Check.answer(desk, d -> d.derived(slot, 1)));
        }
        return all;
    }

    private static String textTold(PermutationDesk desk) {
        StringBuilder told = new StringBuilder();
        for (int p = 0; p < DEGREE; p++) {
            int point = p;
            told.append(Check.answer(desk, d -> d.value(point)));
        }
        return told.toString();
    }

    /** A text that was left open tells what it is when it is closed. */
    private static String textToldWhenClosed(PermutationDesk desk) {
        desk.type('3');
        desk.type(')');
        String closed = textTold(desk);
        desk.type('}');
        return closed + textTold(desk);
    }

    private static String roomTold(PermutationDesk desk) {
        int room = 0;
        while (room < 30 && desk.type('\'')) {
            room++;
        }
        return room + textTold(desk);
    }

    private static String lettersTold(PermutationDesk desk) {
        StringBuilder told = new StringBuilder();
        for (char letter = 'a'; letter <= 'g'; letter++) {
            told.append(textTold(Check.write(desk, "" + letter)));
        }
        return told.toString();
    }

    /** How many there are, told by how many more there may be, and which group they make with one more. */
    private static String generatorsTold(PermutationDesk desk) {
        StringBuilder told = new StringBuilder();
        Check.write(desk, "(13)");
        for (int k = 0; k < 7; k++) {
            told.append(Check.answer(desk, PermutationDesk::generate)).append(' ').append(desk.order(0)).append(' ');
        }
        return told.toString();
    }

    private static String homomorphismTold(PermutationDesk desk) {
        String told = Check.answer(desk, PermutationDesk::extend) + Check.answer(desk, d -> d.kernel(1));
        return told + Check.elements(desk, DEGREE, 1) + Check.answer(desk, d -> d.images(1)) + Check.elements(desk, DEGREE, 1);
    }

    /** An image is told by the group that it makes when all the others are the identity. */
    private static String imageTold(PermutationDesk desk, int generator) {
        Check.write(desk, "()");
        for (int k = 0; k < 6; k++) {
            int other = k;
            if (k != generator) {
                Check.answer(desk, d -> done(() -> d.image(other)));
            }
        }
        return Check.answer(desk, d -> d.images(1)) + Check.elements(desk, DEGREE, 1);
    }

    private static String orbitsTold(PermutationDesk desk, int slot) {
        StringBuilder told = new StringBuilder();
        for (int p = 0; p < DEGREE; p++) {
            told.append(desk.orbit(slot, p)).append(' ');
        }
        return told.toString();
    }

    private static int done(Runnable call) {
        call.run();
        return 0;
    }

    private static void refused(String what, Supplier<PermutationDesk> made, String want, Check.Call call) {
        check.text(what, Check.answer(made.get(), call), want);
        for (int k = 0; k < QUESTIONS.size(); k++) {
            PermutationDesk desk = made.get();
            Check.answer(desk, call);
            check.text(what + ", then question " + k, Check.answer(desk, QUESTIONS.get(k)),
                Check.answer(made.get(), QUESTIONS.get(k)));
        }
    }

    private static void theQuestionsTellDesksApart() {
        check.sentence("Exceptions leave all as it was");
        List<Check.Call> changes = new ArrayList<>();
        changes.add(d -> d.type('a'));
        changes.add(d -> done(d::wipe));
        changes.add(d -> Check.write(d, "a"));
        changes.add(PermutationDesk::generate);
        changes.add(d -> done(d::forget));
        changes.add(d -> done(() -> d.image(0)));
        changes.add(d -> done(() -> d.image(1)));
        changes.add(d -> d.stabiliser(4, 0, true, 1));
        changes.add(d -> d.stabiliser(4, 0, true, 2));
        changes.add(d -> d.stabiliser(4, 0, true, 3));
        changes.add(d -> d.stabiliser(0, 0, true, 4));
        for (int k = 0; k < changes.size(); k++) {
            check.yes("change " + k + " is seen", isSeen(changes.get(k)));
        }
        check.no("no change is seen", isSeen(d -> d.order(0)));
    }

    private static boolean isSeen(Check.Call change) {
        for (Check.Call question : QUESTIONS) {
            PermutationDesk desk = ready("(12)");
            Check.answer(desk, change);
            if (!Check.answer(desk, question).equals(Check.answer(ready("(12)"), question))) {
                return true;
            }
        }
        return false;
    }

    // Reasons, each alone and two at once.

    private static void textAndPoint() {
        for (int point : new int[] {-1, 4}) {
            refused("value of no point", () -> ready("(12)"), INDEX, d -> d.value(point));
            refused("value of no text and no point", () -> ready(""), ARGUMENT, d -> d.value(point));
            refused("value of an open text and no point", () -> ready("{(12"), ARGUMENT, d -> d.value(point));
            refused("value of a full text and no point", () -> ready(FULL), INDEX, d -> d.value(point));
        }
        refused("value of no text", () -> ready(""), ARGUMENT, d -> d.value(0));
        refused("value of an open text", () -> ready("{(12"), ARGUMENT, d -> d.value(3));
    }

    private static void textAndGenerators() {
        refused("generate from no text", () -> ready(""), ARGUMENT, PermutationDesk::generate);
        refused("generate from an open text", () -> ready("{(12"), ARGUMENT, PermutationDesk::generate);
        refused("generate from its own letter", () -> ready("c"), ARGUMENT, PermutationDesk::generate);
        refused("generate a seventh", () -> sixGenerators("(12)"), STATE, PermutationDesk::generate);
        refused("generate a seventh from no text", () -> sixGenerators(""), ARGUMENT, PermutationDesk::generate);
        refused("generate a seventh from its letter", () -> sixGenerators("g"), ARGUMENT, PermutationDesk::generate);
    }

    private static void textAndGenerator() {
        for (int k : new int[] {-1, 2, 6}) {
            refused("image of no generator", () -> ready("(12)"), INDEX, d -> done(() -> d.image(k)));
            refused("image of no generator, no text", () -> ready(""), ARGUMENT, d -> done(() -> d.image(k)));
        }
        for (int k : new int[] {-1, 6}) {
            refused("image of none of six", () -> sixGenerators("(12)"), INDEX, d -> done(() -> d.image(k)));
        }
        refused("image, no text", () -> ready(""), ARGUMENT, d -> done(() -> d.image(0)));
        refused("image, an open text", () -> ready("{(12"), ARGUMENT, d -> done(() -> d.image(1)));
        refused("image, a missing letter", () -> missingImage("d"), ARGUMENT, d -> done(() -> d.image(2)));
    }

    private static void missingImages() {
        refused("extend", () -> missingImage("(12)"), STATE, PermutationDesk::extend);
        refused("extend, no text", () -> missingImage(""), STATE, PermutationDesk::extend);
        for (int to = 1; to <= 4; to++) {
            int good = to;
            refused("images, one is missing", () -> missingImage("(12)"), STATE, d -> d.images(good));
            refused("kernel, one is missing", () -> missingImage("(12)"), STATE, d -> d.kernel(good));
        }
        for (int to : new int[] {-1, 0, 5}) {
            refused("images to no slot", () -> ready("(12)"), INDEX, d -> d.images(to));
            refused("images to no slot, one is missing", () -> missingImage("(12)"), INDEX, d -> d.images(to));
            refused("kernel to no slot, one is missing", () -> missingImage("(12)"), INDEX, d -> d.kernel(to));
        }
    }

    private static void targetAndHomomorphism() {
        for (int to = 1; to <= 4; to++) {
            int good = to;
            refused("kernel, no homomorphism", () -> wrongImages("(12)"), STATE, d -> d.kernel(good));
        }
        for (int to : new int[] {-1, 0, 5}) {
            refused("kernel to no slot", () -> ready("(12)"), INDEX, d -> d.kernel(to));
            refused("kernel to no slot, no homomorphism", () -> wrongImages("(12)"), INDEX, d -> d.kernel(to));
        }
    }

    private static final int[][] NO_SLOTS = {{-1, 1}, {5, 1}, {0, 0}, {0, -1}, {0, 5}, {4, 0}, {-1, 0}, {5, 5}};

    private static void slotsAndSet() {
        for (int[] row : NO_SLOTS) {
            for (boolean whole : new boolean[] {false, true}) {
                refused("stabiliser of no slots", () -> ready("(12)"), INDEX,
                    d -> d.stabiliser(row[0], 1, whole, row[1]));
                refused("stabiliser of no slots and no set", () -> ready("(12)"), INDEX,
                    d -> d.stabiliser(row[0], 16, whole, row[1]));
            }
        }
        for (int set : new int[] {16, 31, -1, 1 << 31}) {
            refused("stabiliser of no set", () -> ready("(12)"), ARGUMENT, d -> d.stabiliser(0, set, false, 1));
            refused("stabiliser of no set", () -> ready("(12)"), ARGUMENT, d -> d.stabiliser(4, set, true, 4));
        }
    }

    private static void slotsAndText() {
        for (int[] row : NO_SLOTS) {
            for (String text : new String[] {"(12)", "", "{(12"}) {
                refused("centraliser of no slots, text " + text, () -> ready(text), INDEX,
                    d -> d.centraliser(row[0], row[1]));
                refused("closure of no slots, text " + text, () -> ready(text), INDEX, d -> d.closure(row[0], row[1]));
            }
        }
        for (String text : new String[] {"", "{(12", "c"}) {
            refused("centraliser of no text", () -> ready(text), ARGUMENT, d -> d.centraliser(0, 1));
            refused("centraliser of no text", () -> ready(text), ARGUMENT, d -> d.centraliser(4, 4));
            refused("closure of no text", () -> ready(text), ARGUMENT, d -> d.closure(0, 1));
            refused("closure of no text", () -> ready(text), ARGUMENT, d -> d.closure(4, 4));
            refused("rank of no text", () -> ready(text), ARGUMENT, d -> d.rank(0));
            refused("rank of no text", () -> ready(text), ARGUMENT, d -> d.rank(4));
            refused("rank in no slot of no text", () -> ready(text), INDEX, d -> d.rank(5));
            refused("rank in no slot of no text", () -> ready(text), INDEX, d -> d.rank(-1));
        }
        refused("rank in no slot", () -> ready("(12)"), INDEX, d -> d.rank(5));
        refused("rank in no slot", () -> ready("(12)"), INDEX, d -> d.rank(-1));
    }

    private static void slotsAndPoints() {
        for (int[] row : NO_SLOTS) {
            refused("derived of no slots", () -> ready("(12)"), INDEX, d -> d.derived(row[0], row[1]));
        }
        for (int slot : new int[] {-1, 5}) {
            refused("order of no slot", () -> ready("(12)"), INDEX, d -> d.order(slot));
            refused("element of no slot", () -> ready("(12)"), INDEX, d -> d.element(slot, 0, 0));
            refused("orbit of no slot", () -> ready("(12)"), INDEX, d -> d.orbit(slot, 0));
        }
        for (int point : new int[] {-1, 4}) {
            refused("element of no point", () -> ready("(12)"), INDEX, d -> d.element(0, 0, point));
            refused("orbit of no point", () -> ready("(12)"), INDEX, d -> d.orbit(0, point));
        }
        for (int rank : new int[] {-1, 8}) {
            refused("element of no rank", () -> ready("(12)"), INDEX, d -> d.element(0, rank, 0));
        }
    }

    /** Many calls that are refused, one after the other on one desk, leave it as one that was never asked. */
    private static void refusedOneAfterTheOther() {
        refused("all of them", () -> missingImage("{(12"), STATE, d -> {
            for (int turn = 0; turn < 3; turn++) {
                Check.answer(d, x -> x.value(0));
                Check.answer(d, PermutationDesk::generate);
                Check.answer(d, x -> done(() -> x.image(0)));
                Check.answer(d, PermutationDesk::extend);
                Check.answer(d, x -> x.kernel(1));
                Check.answer(d, x -> x.images(1));
                Check.answer(d, x -> x.stabiliser(0, 16, true, 1));
                Check.answer(d, x -> x.centraliser(0, 1));
                Check.answer(d, x -> x.closure(0, 1));
                Check.answer(d, x -> x.derived(0, 0));
                Check.answer(d, x -> x.order(5));
                Check.answer(d, x -> x.rank(0));
                Check.answer(d, x -> x.element(0, 8, 0));
                Check.answer(d, x -> x.orbit(0, 4));
            }
            return d.images(2);
        });
    }

    private static void characters() {
        for (int c : new int[] {0, 31, 127, 128, 256 + 'a', 65535}) {
            refused("character " + c, () -> ready("(12)"), "false", d -> d.type((char) c));
            refused("character " + c + " in an empty text", () -> ready(""), "false", d -> d.type((char) c));
            refused("character " + c + " in a full text", () -> ready(FULL), "false", d -> d.type((char) c));
        }
        for (char c : new char[] {' ', '~', 'a', '\''}) {
            refused("one more in a full text", () -> ready(FULL), "false", d -> d.type(c));
        }
    }

    private static void brokenTextThatNobodyReads() {
        for (String text : new String[] {"", "{(12", "c"}) {
            String what = " with text " + text;
            check.text("extend" + what, Check.answer(ready(text), PermutationDesk::extend), "true");
            check.text("kernel" + what, Check.answer(ready(text), d -> d.kernel(1)), "2");
            check.text("images" + what, Check.answer(ready(text), d -> d.images(1)), "4");
            check.text("stabiliser" + what, Check.answer(ready(text), d -> d.stabiliser(0, 1, false, 1)), "2");
            check.text("derived" + what, Check.answer(ready(text), d -> d.derived(0, 1)), "2");
            check.text("order" + what, Check.answer(ready(text), d -> d.order(0)), "8");
            check.text("element" + what, Check.answer(ready(text), d -> d.element(0, 7, 0)), "3");
            check.text("orbit" + what, Check.answer(ready(text), d -> d.orbit(0, 0)), "15");
            check.text("forget" + what, Check.answer(ready(text), d -> done(d::forget)), "0");
            check.text("wipe" + what, Check.answer(ready(text), d -> done(d::wipe)), "0");
            check.text("type" + what, Check.answer(ready(text), d -> d.type(' ')), "true");
        }
    }
}
