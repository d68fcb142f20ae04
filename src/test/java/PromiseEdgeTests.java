/**
 * Each sentence of the promises 1 to 18 that names a boundary case, on both sides of the boundary. What an
 * exception leaves behind, and which one comes first, stands in RefusalTests.
 */
public final class PromiseEdgeTests {
    private static final Check check = new Check("PromiseEdgeTests");
    private static final int LEAST = Integer.MIN_VALUE;
    private static final int MOST = Integer.MAX_VALUE;
    /** What is no slot: just beside them, and what would be one if high bits, or a sign, were lost. */
    private static final int[] NO_SLOTS = {-1, 5, -2, 6, 8, 9, -4, 256, 257, 65537, LEAST, LEAST + 1, MOST};
    private static final int[] FACTORIALS = {1, 1, 2, 6, 24, 120, 720, 5040};

    public static void main(String[] args) {
        degrees();
        aNewObject();
        typeAppends();
        typeRefuses();
        wipe();
        value();
        valueOfNoExpression();
        valueOfNoPoint();
        generate();
        generateNoExpression();
        generateASeventh();
        forget();
        image();
        imageOfNoExpression();
        imageOfNoGenerator();
        extend();
        extendWithoutImages();
        kernel();
        kernelToNoSlot();
        kernelOfNoHomomorphism();
        images();
        imagesToNoSlot();
        imagesWithoutImages();
        stabiliserPointwise();
        stabiliserWhole();
        stabiliserOfNoSlots();
        stabiliserOfNoSet();
        centraliser();
        centraliserOfNoSlots();
        centraliserOfNoExpression();
        closure();
        closureOfNoSlots();
        closureOfNoExpression();
        derived();
        derivedOfNoSlots();
        order();
        orderOfNoSlot();
        rank();
        rankOfNoMember();
        rankInNoSlot();
        rankOfNoExpression();
        element();
        elementThatIsNot();
        orbit();
        orbitThatIsNot();
        check.end();
    }

    private interface From {
        int make(PermutationDesk desk, int from, int to);
    }

    private static PermutationDesk all(int degree) {
        return Check.desk(degree, "(" + upTo(degree) + ")", degree == 1 ? "()" : "(01)");
    }

    private static String upTo(int degree) {
        return "0123456".substring(0, degree);
    }

    /** Slots 0 .. 4 of these have 24, 12, 4, 2 and 6 elements, and the text is a. */
    private static PermutationDesk five() {
        PermutationDesk desk = all(4);
        desk.derived(0, 1);
        desk.derived(1, 2);
        desk.stabiliser(0, 3, false, 3);
        desk.stabiliser(0, 8, false, 4);
        return Check.write(desk, "a");
    }

    /** A call that makes a group takes from 0 .. 4 and to 1 .. 4, each with each, and nothing else. */
    private static void takesSlots(String name, int[] orders, From call) {
        for (int from = 0; from <= 4; from++) {
            for (int to = 1; to <= 4; to++) {
                PermutationDesk desk = five();
                check.same(name + " from " + from + " to " + to, call.make(desk, from, to), orders[from]);
                check.same(name + " in slot " + to, desk.order(to), orders[from]);
            }
        }
        nothingOfTheOldGroupStays(name, orders, call);
        PermutationDesk desk = five();
        for (int no : NO_SLOTS) {
            for (int good : new int[] {1, 4}) {
                check.index(name + " from " + no + " to " + good, () -> call.make(desk, no, good));
                check.index(name + " from " + good + " to " + no, () -> call.make(desk, good, no));
            }
            check.index(name + " from " + no + " to " + no, () -> call.make(desk, no, no));
            check.index(name + " from " + no + " to 0", () -> call.make(desk, no, 0));
        }
        for (int from = 0; from <= 4; from++) {
            int good = from;
            check.index(name + " from " + from + " to 0", () -> call.make(desk, good, 0));
        }
    }

    /** Twice, and into slots that have all elements, so that each place where a group may lie has had a larger one. */
    private static void nothingOfTheOldGroupStays(String name, int[] orders, From call) {
        for (int from = 1; from <= 4; from++) {
            PermutationDesk desk = five();
            int to = from % 4 + 1;
            for (int turn = 0; turn < 3; turn++) {
                desk.stabiliser(0, 0, true, to);
                desk.stabiliser(0, 0, true, to);
                check.same(name + " into a full slot", call.make(desk, from, to), orders[from]);
                check.same(name + " into a slot that has it", call.make(desk, from, to), orders[from]);
                check.same(name + " in slot " + to, desk.order(to), orders[from]);
            }
        }
    }

    private static void degrees() {
        check.sentence("The degree is 1 + the lowest three bits of n, but 7 if that is 8.");
        int[] degrees = {1, 2, 3, 4, 5, 6, 7, 7};
        for (int base : new int[] {0, 8, 16, 56, 64, 248, 256, 1 << 20, -8, -16, -64, -256, LEAST, MOST - 7}) {
            for (int low = 0; low < 8; low++) {
                int degree = degrees[low];
                PermutationDesk desk = Check.write(new PermutationDesk(base + low), "()");
                check.same("the last point of " + (base + low), desk.value(degree - 1), degree - 1);
                check.index("one point more of " + (base + low), () -> desk.value(degree));
            }
        }
    }

    private static void aNewObject() {
        check.sentence("An empty text, no generators; all slots have the identity alone.");
        for (int n = 0; n <= 6; n++) {
            PermutationDesk desk = new PermutationDesk(n);
            int degree = n + 1;
            check.argument("the text is no expression", () -> desk.value(0));
            for (int slot = 0; slot <= 4; slot++) {
                check.same("order of slot " + slot, desk.order(slot), 1);
                check.text("slot " + slot, Check.elements(desk, degree, slot), upTo(degree));
            }
            check.yes("no generator lacks an image", desk.extend());
            for (int k = 0; k < 24; k++) {
                check.yes("there is room for 24", desk.type("(0)'".charAt(k % 4)));
            }
            check.no("there is no more", desk.type('\''));
            check.same("nothing stood before them", desk.value(0), 0);
            check.index("no generator 0", () -> desk.image(0));
            check.argument("no letter", () -> Check.write(desk, "a").value(0));
            check.same("the first one", Check.write(desk, "()").generate(), 1);
        }
    }

    private static void typeAppends() {
        check.sentence("Appends a character to the text;");
        PermutationDesk desk = Check.desk(3, "(012)", "(01)");
        check.yes("a", desk.type('a'));
        // The text of a new desk's generators is still there.
        check.text("behind (01)", "" + desk.value(0) + desk.value(1) + desk.value(2), "210");
        Check.write(desk, "a");
        check.yes("b", desk.type('b'));
        check.text("ab", "" + desk.value(0) + desk.value(1) + desk.value(2), "021");
    }

    private static void typeRefuses() {
        check.sentence("false, refused, if it is not 32 .. 126 or 24 are there.");
        for (int c : new int[] {0, 9, 10, 31, 127, 128, 160, 255, 256, 288, 353, 65535}) {
            PermutationDesk desk = Check.write(Check.desk(3, "(012)"), "a");
            check.no("character " + c, desk.type((char) c));
            check.same("the text is a still", desk.value(0), 1);
            for (int k = 0; k < 23; k++) {
                check.yes("room for 23 more", desk.type('a'));
            }
            check.no("and no more", desk.type('a'));
            check.no("character " + c + " in a full text", desk.type((char) c));
            check.same("24 times a", desk.value(0), 0);
        }
        PermutationDesk desk = Check.desk(3);
        check.yes("character 32", Check.write(desk, "").type(' '));
        check.yes("character 33", desk.type('!'));
        check.yes("character 125", desk.type('}'));
        check.yes("character 126", desk.type('~'));
        check.argument("they are in the text", () -> desk.value(0));
        for (int c = 32; c <= 126; c++) {
            PermutationDesk full = Check.write(Check.desk(3, "(012)"), "aaaaaaaaaaaaaaaaaaaaaaaa");
            check.no("the 25th, " + c, full.type((char) c));
            check.same("24 times a", full.value(1), 1);
        }
    }

    private static void wipe() {
        check.sentence("The text becomes empty.");
        for (String text : new String[] {"", "a", "(01", "a ~", "aaaaaaaaaaaaaaaaaaaaaaaa"}) {
            PermutationDesk desk = Check.write(Check.desk(3, "(012)"), text);
            desk.wipe();
            check.argument("behind " + text, () -> desk.value(0));
            for (int k = 0; k < 24; k++) {
                check.yes("room for 24", desk.type('a'));
            }
            check.no("not for 25", desk.type('a'));
            check.same("24 times a", desk.value(0), 0);
            check.same("the group is as it was", desk.order(0), 3);
        }
    }

    private static void value() {
        check.sentence("Where the text's element takes a point.");
        for (int degree = 1; degree <= 7; degree++) {
            PermutationDesk desk = Check.write(Check.desk(degree), "(" + upTo(degree) + ")");
            for (int p = 0; p < degree; p++) {
                check.same("point " + p, desk.value(p), p + 1 == degree ? 0 : p + 1);
            }
        }
    }

    private static void valueOfNoExpression() {
        check.sentence("value: IllegalArgumentException if the text is no expression;");
        PermutationDesk desk = Check.desk(3, "(012)");
        for (String text : new String[] {"", " ", "b", "(", "(01", "(3)", "(00)", "a^", "'", "[a]", "{}", "{{{{{a}}}}}"}) {
            Check.write(desk, text);
            for (int p = 0; p < 3; p++) {
                int point = p;
                check.argument(text + " at " + p, () -> desk.value(point));
            }
        }
        check.same("an expression", Check.write(desk, "a").value(0), 1);
    }

    private static void valueOfNoPoint() {
        check.sentence("value: IndexOutOfBoundsException if there is no such point.");
        for (int degree = 1; degree <= 7; degree++) {
            PermutationDesk desk = Check.write(Check.desk(degree), "()");
            for (int point : new int[] {-1, degree, degree + 1, 15, 16, 64, LEAST, MOST}) {
                check.index("point " + point, () -> desk.value(point));
            }
            check.same("the first one", desk.value(0), 0);
            check.same("the last one", desk.value(degree - 1), degree - 1);
        }
    }

    private static void generate() {
        check.sentence("The text's element becomes the next generator, without an image: how many there are.");
        PermutationDesk desk = Check.desk(4);
        String[] texts = {"()", "(01)", "b", "(23)", "(0123)", "e'"};
        int[] orders = {1, 2, 2, 4, 24, 24};
        for (int k = 0; k < 6; k++) {
            check.same("the next one", Check.write(desk, texts[k]).generate(), k + 1);
            check.same("order", desk.order(0), orders[k]);
            check.state("without an image", desk::extend);
            check.text("its letter", Check.values(desk, 4, "" + (char) ('a' + k)), Check.values(desk, 4, texts[k]));
            desk.image(k);
            check.text("with one", Check.answer(desk, d -> d.images(1) > 0), "true");
        }
        desk.forget();
        check.same("a first one anew", Check.write(desk, "(01)").generate(), 1);
        check.state("the old image is not its own", desk::extend);
    }

    private static void generateNoExpression() {
        check.sentence("generate: IllegalArgumentException if the text is no expression;");
        PermutationDesk desk = Check.desk(3, "(012)");
        for (String text : new String[] {"", "b", "(3)", "(0", "a)", "{{{{{a}}}}}"}) {
            check.argument(text, () -> Check.write(desk, text).generate());
        }
        check.same("none became one", Check.write(desk, "(01)").generate(), 2);
    }

    private static void generateASeventh() {
        check.sentence("IllegalStateException if there are six.");
        PermutationDesk desk = Check.desk(3, "()", "()", "()", "()", "()");
        check.same("the sixth", Check.write(desk, "(01)").generate(), 6);
        Check.write(desk, "(012)");
        check.state("a seventh", desk::generate);
        check.state("a seventh again", desk::generate);
        check.same("the group of six", desk.order(0), 2);
        check.text("the sixth is as it was", Check.values(desk, 3, "f"), "102");
        desk.forget();
        check.same("after forget", Check.write(desk, "()").generate(), 1);
    }

    private static void forget() {
        check.sentence("All generators are gone.");
        for (int count = 0; count <= 6; count++) {
            PermutationDesk desk = Check.desk(3);
            for (int k = 0; k < count; k++) {
                Check.write(desk, k == 0 ? "(012)" : "(01)").generate();
                desk.image(k);
            }
            desk.stabiliser(0, 0, false, 4);
            int size = desk.order(0);
            Check.write(desk, "(02)");
            desk.forget();
            check.text("slot 0", Check.elements(desk, 3, 0), "012");
            check.same("slot 4 is as it was", desk.order(4), size);
            check.same("the text is as it was", desk.value(0), 2);
            check.yes("no images are due", desk.extend());
            check.same("and none are there", desk.images(1), 1);
            check.index("no generator 0", () -> desk.image(0));
            check.argument("no letter", () -> Check.write(desk, "a").value(0));
            for (int k = 0; k < 6; k++) {
                check.same("six anew", Check.write(desk, "(01)").generate(), k + 1);
                check.state("without images", desk::extend);
            }
            check.state("not seven", desk::generate);
        }
    }

    private static void image() {
        check.sentence("The text's element becomes the image of generator k.");
        for (int k = 0; k < 6; k++) {
            PermutationDesk desk = Check.desk(7, "(01)", "(12)", "(23)", "(34)", "(45)", "(56)");
            Check.images(desk, "()", "()", "()", "()", "()", "()");
            check.same("all the identity", desk.images(1), 1);
            Check.write(desk, "(0246)").image(k);
            desk.images(1);
            check.text("one of them", Check.elements(desk, 7, 1), "0123456 2143650 4163052 6103254");
            Check.write(desk, "(01)").image(k);
            check.same("another one in its place", desk.images(1), 2);
            Check.write(desk, "(35)");
            check.same("an image is not the text", desk.images(1), 2);
        }
    }

    private static void imageOfNoExpression() {
        check.sentence("image: IllegalArgumentException if the text is no expression;");
        PermutationDesk desk = Check.desk(3, "(012)");
        for (String text : new String[] {"", "b", "(3)", "(0", "a)"}) {
            check.argument(text, () -> Check.write(desk, text).image(0));
            check.state("no image came of " + text, desk::extend);
        }
        Check.write(desk, "a").image(0);
        check.yes("of an expression", desk.extend());
    }

    private static void imageOfNoGenerator() {
        check.sentence("IndexOutOfBoundsException if there is no such generator.");
        for (int count = 0; count <= 6; count++) {
            PermutationDesk desk = Check.desk(3);
            for (int k = 0; k < count; k++) {
                Check.write(desk, "(01)").generate();
            }
            Check.write(desk, "(02)");
            for (int k : new int[] {-1, count, count + 1, 6, 7, 8, 256, LEAST, MOST}) {
                check.index("generator " + k + " of " + count, () -> desk.image(k));
            }
            for (int k = 0; k < count; k++) {
                check.state("generator " + k + " has none yet", desk::extend);
                desk.image(k);
            }
            check.yes("each has one", desk.extend());
        }
    }

    private static void extend() {
        check.sentence("Whether the images are a homomorphism.");
        check.yes("no generators", Check.desk(7).extend());
        for (int degree = 1; degree <= 7; degree++) {
            PermutationDesk desk = all(degree);
            Check.images(desk, "a", "b");
            check.yes("each to itself", desk.extend());
            Check.images(desk, "()", "()");
            check.yes("each to the identity", desk.extend());
            Check.images(desk, "b", "a");
            // With one point and with two, a and b are the same element.
            check.same("each to the other in degree " + degree, desk.extend() ? 1 : 0, degree <= 2 ? 1 : 0);
        }
        PermutationDesk six = Check.desk(7, "(01)", "(12)", "(23)", "(34)", "(45)", "(56)");
        Check.images(six, "f", "e", "d", "c", "b", "a");
        check.yes("six turned round", six.extend());
        Check.images(six, "f", "e", "d", "c", "b", "b");
        check.no("six, and one that is wrong", six.extend());
    }

    private static void extendWithoutImages() {
        check.sentence("extend: IllegalStateException if a generator has none.");
        PermutationDesk desk = Check.desk(3, "(01)", "(01)", "(01)");
        check.state("none has one", desk::extend);
        Check.write(desk, "a").image(0);
        check.state("the first has one", desk::extend);
        Check.write(desk, "a").image(2);
        check.state("the middle one has none", desk::extend);
        Check.write(desk, "(12)").image(1);
        check.no("each has one", desk.extend());
        Check.write(desk, "a").generate();
        check.state("a new one has none", desk::extend);
        desk.forget();
        check.yes("there is no generator", desk.extend());
    }

    private static void kernel() {
        check.sentence("Slot to gets the kernel: its order.");
        PermutationDesk desk = all(4);
        Check.images(desk, "(02)", "(12)");
        check.same("of four", desk.kernel(1), 4);
        check.text("its elements", Check.elements(desk, 4, 1), "0123 1032 2301 3210");
        Check.images(desk, "a", "b");
        check.same("the least", desk.kernel(1), 1);
        check.text("the identity alone", Check.elements(desk, 4, 1), "0123");
        Check.images(desk, "()", "()");
        check.same("the largest", desk.kernel(1), 24);
        check.same("is slot 0", desk.order(1), 24);
        for (int turn = 0; turn < 3; turn++) {
            desk.stabiliser(0, 0, true, 1);
            Check.images(desk, "(02)", "(12)");
            check.same("into a full slot", desk.kernel(1), 4);
        }
        desk.forget();
        check.same("of no generators", desk.kernel(1), 1);
        check.text("the identity alone", Check.elements(desk, 4, 1), "0123");
    }

    private static void kernelToNoSlot() {
        check.sentence("kernel: IndexOutOfBoundsException if to is not 1 .. 4;");
        PermutationDesk desk = all(4);
        Check.images(desk, "b", "b");
        for (int to : NO_SLOTS) {
            check.index("to " + to, () -> desk.kernel(to));
        }
        check.index("to 0", () -> desk.kernel(0));
        for (int to = 1; to <= 4; to++) {
            check.same("slot " + to + " before", desk.order(to), 1);
            check.same("to " + to, desk.kernel(to), 12);
            check.same("slot " + to, desk.order(to), 12);
        }
        check.same("slot 0", desk.order(0), 24);
    }

    private static void kernelOfNoHomomorphism() {
        check.sentence("IllegalStateException if the images are no homomorphism.");
        PermutationDesk desk = all(3);
        check.state("no images", () -> desk.kernel(1));
        Check.images(desk, "()");
        check.state("one is missing", () -> desk.kernel(1));
        Check.images(desk, "(01)", "()");
        check.state("no homomorphism", () -> desk.kernel(1));
        Check.images(desk, "()", "(12)");
        check.same("a homomorphism", desk.kernel(1), 3);
    }

    private static void images() {
        check.sentence("Slot to gets the group made by the images: its order.");
        PermutationDesk desk = Check.desk(5, "(01)", "(12)");
        Check.images(desk, "()", "()");
        check.same("the least", desk.images(1), 1);
        check.text("the identity alone", Check.elements(desk, 5, 1), "01234");
        Check.images(desk, "(01234)", "(01)");
        check.same("more than slot 0, and no homomorphism", desk.images(1), 120);
        check.same("in slot 1", desk.order(1), 120);
        Check.images(desk, "(34)", "(34)");
        check.same("two", desk.images(1), 2);
        check.text("these", Check.elements(desk, 5, 1), "01234 01243");
        for (int turn = 0; turn < 3; turn++) {
            desk.stabiliser(0, 0, true, 1);
            check.same("into a slot of more", desk.images(1), 2);
        }
        desk.forget();
        check.same("of no generators", desk.images(1), 1);
    }

    private static void imagesToNoSlot() {
        check.sentence("images: IndexOutOfBoundsException if to is not 1 .. 4;");
        PermutationDesk desk = all(4);
        Check.images(desk, "(01)", "(12)");
        for (int to : NO_SLOTS) {
            check.index("to " + to, () -> desk.images(to));
        }
        check.index("to 0", () -> desk.images(0));
        for (int to = 1; to <= 4; to++) {
            check.same("slot " + to + " before", desk.order(to), 1);
            check.same("to " + to, desk.images(to), 6);
            check.same("slot " + to, desk.order(to), 6);
        }
        check.same("slot 0", desk.order(0), 24);
    }

    private static void imagesWithoutImages() {
        check.sentence("images: IllegalStateException if a generator has none.");
        for (int missing = 0; missing < 3; missing++) {
            PermutationDesk desk = Check.desk(3, "(01)", "(12)", "(02)");
            check.state("no images", () -> desk.images(1));
            for (int k = 0; k < 3; k++) {
                if (k != missing) {
                    Check.write(desk, "(01)").image(k);
                }
            }
            check.state("all but " + missing, () -> desk.images(1));
            Check.write(desk, "(12)").image(missing);
            check.same("all", desk.images(1), 6);
        }
    }

    private static void stabiliserPointwise() {
        check.sentence("those elements of slot from that leave each point of a set (bit p for point p) where it is");
        for (int degree = 1; degree <= 7; degree++) {
            PermutationDesk desk = all(degree);
            for (int set = 0; set < 1 << degree; set++) {
                int left = degree - Integer.bitCount(set);
                check.same("set " + set + " of degree " + degree, desk.stabiliser(0, set, false, 1), FACTORIALS[left]);
            }
        }
        PermutationDesk desk = all(4);
        desk.stabiliser(0, 0, false, 1);
        check.text("no point", Check.elements(desk, 4, 1), Check.elements(all(4), 4, 0));
        desk.stabiliser(0, 15, false, 1);
        check.text("all points", Check.elements(desk, 4, 1), "0123");
        desk.stabiliser(0, 5, false, 1);
        check.text("points 0 and 2", Check.elements(desk, 4, 1), "0123 0321");
    }

    private static void stabiliserWhole() {
        check.sentence("or (whole) take it to one of the set: its order.");
        for (int degree = 1; degree <= 7; degree++) {
            PermutationDesk desk = all(degree);
            for (int set = 0; set < 1 << degree; set++) {
                int inside = Integer.bitCount(set);
                check.same("set " + set + " of degree " + degree, desk.stabiliser(0, set, true, 1),
                    FACTORIALS[inside] * FACTORIALS[degree - inside]);
            }
        }
        PermutationDesk desk = all(4);
        desk.stabiliser(0, 0, true, 1);
        check.text("no point", Check.elements(desk, 4, 1), Check.elements(all(4), 4, 0));
        desk.stabiliser(0, 15, true, 1);
        check.text("all points", Check.elements(desk, 4, 1), Check.elements(all(4), 4, 0));
        desk.stabiliser(0, 5, true, 1);
        check.text("points 0 and 2", Check.elements(desk, 4, 1), "0123 0321 2103 2301");
    }

    private static void stabiliserOfNoSlots() {
        check.sentence("stabiliser: IndexOutOfBoundsException if from is not 0 .. 4 or to not 1 .. 4;");
        takesSlots("stabiliser of point 3", new int[] {6, 3, 1, 1, 6}, (d, from, to) -> d.stabiliser(from, 8, false, to));
        takesSlots("stabiliser of 0 and 1", new int[] {4, 2, 2, 2, 2}, (d, from, to) -> d.stabiliser(from, 3, true, to));
    }

    private static void stabiliserOfNoSet() {
        check.sentence("IllegalArgumentException if the set has bits that are no point's.");
        for (int degree = 1; degree <= 7; degree++) {
            PermutationDesk desk = all(degree);
            int most = (1 << degree) - 1;
            for (boolean whole : new boolean[] {false, true}) {
                for (int bit = degree; bit < 32; bit++) {
                    int set = 1 << bit;
                    check.argument("bit " + bit + " of degree " + degree, () -> desk.stabiliser(0, set, whole, 1));
                    check.argument("bit " + bit + " and all points", () -> desk.stabiliser(0, set | most, whole, 1));
                }
                check.argument("all bits", () -> desk.stabiliser(0, -1, whole, 1));
                check.argument("no point's bits", () -> desk.stabiliser(0, ~most, whole, 1));
            }
            check.same("slot 1 is as it was", desk.order(1), 1);
            check.same("all points", desk.stabiliser(0, most, true, 1), FACTORIALS[degree]);
            check.same("the last point", desk.stabiliser(0, 1 << degree - 1, true, 1), FACTORIALS[degree - 1]);
        }
    }

    private static void centraliser() {
        check.sentence("those elements x of slot from for which x y is y x, y being the text's element: its order.");
        PermutationDesk desk = all(7);
        String[][] rows = {{"()", "5040"}, {"(0123456)", "7"}, {"(06)", "240"}, {"(01)(23)(45)", "48"}, {"(012345)", "6"}};
        for (String[] row : rows) {
            check.same(row[0], Check.write(desk, row[0]).centraliser(0, 1), Integer.parseInt(row[1]));
        }
        check.same("of the identity alone", Check.write(desk, "(01)").centraliser(2, 1), 1);
        PermutationDesk cyclic = Check.desk(4, "(0123)");
        check.same("of one that is no member", Check.write(cyclic, "(01)(23)").centraliser(0, 1), 2);
        check.text("these", Check.elements(cyclic, 4, 1), "0123 2301");
    }

    private static void centraliserOfNoSlots() {
        check.sentence("centraliser: IndexOutOfBoundsException if from is not 0 .. 4 or to not 1 .. 4;");
        takesSlots("centraliser", new int[] {4, 2, 2, 1, 1}, (d, from, to) -> d.centraliser(from, to));
    }

    private static void centraliserOfNoExpression() {
        check.sentence("centraliser: IllegalArgumentException if the text is no expression.");
        PermutationDesk desk = all(4);
        for (String text : new String[] {"", "c", "(4)", "(0", "a)", "{{{{{a}}}}}"}) {
            check.argument(text, () -> Check.write(desk, text).centraliser(0, 1));
        }
        check.same("slot 1 is as it was", desk.order(1), 1);
        check.same("an expression", Check.write(desk, "{{{{a}}}}").centraliser(0, 1), 4);
    }

    private static void closure() {
        check.sentence("the group made by all x' y x, x in slot from, y being the text's element: its order.");
        PermutationDesk desk = all(7);
        String[][] rows = {{"()", "1"}, {"(012)", "2520"}, {"(56)", "5040"}, {"(01)(23)", "2520"}, {"a", "2520"}};
        for (String[] row : rows) {
            check.same(row[0], Check.write(desk, row[0]).closure(0, 1), Integer.parseInt(row[1]));
        }
        check.same("under the identity alone", Check.write(desk, "(012)(34)").closure(2, 1), 6);
        PermutationDesk swap = Check.desk(4, "(01)");
        check.same("of one that is no member", Check.write(swap, "(12)").closure(0, 1), 6);
        check.text("these", Check.elements(swap, 4, 1), "0123 0213 1023 1203 2013 2103");
        check.same("of one that commutes with all", Check.write(swap, "(23)").closure(0, 1), 2);
    }

    private static void closureOfNoSlots() {
        check.sentence("closure: IndexOutOfBoundsException if from is not 0 .. 4 or to not 1 .. 4;");
        takesSlots("closure", new int[] {24, 24, 4, 24, 24}, (d, from, to) -> d.closure(from, to));
    }

    private static void closureOfNoExpression() {
        check.sentence("closure: IllegalArgumentException if the text is no expression.");
        PermutationDesk desk = all(4);
        for (String text : new String[] {"", "c", "(4)", "(0", "a)", "{{{{{a}}}}}"}) {
            check.argument(text, () -> Check.write(desk, text).closure(0, 1));
        }
        check.same("slot 1 is as it was", desk.order(1), 1);
        check.same("an expression", Check.write(desk, "{{{{a}}}}").closure(0, 1), 24);
    }

    private static void derived() {
        check.sentence("Slot to gets the group made by all commutators of elements of slot from: its order.");
        int[] orders = {1, 1, 1, 3, 12, 60, 360, 2520};
        for (int degree = 1; degree <= 7; degree++) {
            check.same("of all of degree " + degree, all(degree).derived(0, 1), orders[degree]);
        }
        PermutationDesk desk = Check.desk(7);
        check.same("of the identity alone", desk.derived(0, 1), 1);
        check.text("the identity alone", Check.elements(desk, 7, 1), "0123456");
        check.same("of a cyclic one", Check.desk(7, "(0123456)").derived(0, 1), 1);
        check.same("of one that is its own", Check.desk(5, "(01234)", "(012)").derived(0, 1), 60);
        check.same("of six", Check.desk(5, "(24)(03)", "(124)").derived(0, 1), 3);
        check.same("of eight", Check.desk(7, "(05)(3164)", "(36)").derived(0, 1), 2);
    }

    private static void derivedOfNoSlots() {
        check.sentence("derived: IndexOutOfBoundsException if from is not 0 .. 4 or to not 1 .. 4.");
        takesSlots("derived", new int[] {12, 4, 1, 1, 3}, (d, from, to) -> d.derived(from, to));
    }

    private static void order() {
        check.sentence("How many elements a slot has.");
        check.same("the least", Check.desk(7).order(4), 1);
        check.same("the largest", all(7).order(0), 5040);
        int[] orders = {24, 12, 4, 2, 6};
        for (int slot = 0; slot <= 4; slot++) {
            check.same("slot " + slot, five().order(slot), orders[slot]);
        }
    }

    private static void orderOfNoSlot() {
        check.sentence("order: IndexOutOfBoundsException if there is no such slot.");
        PermutationDesk desk = five();
        for (int slot : NO_SLOTS) {
            check.index("slot " + slot, () -> desk.order(slot));
        }
        check.same("slot 0", desk.order(0), 24);
        check.same("slot 4", desk.order(4), 6);
    }

    private static void rank() {
        check.sentence("How many elements of a slot are less than the text's, if that is one of them");
        PermutationDesk desk = all(7);
        check.same("the first", Check.write(desk, "()").rank(0), 0);
        check.same("the second", Check.write(desk, "(56)").rank(0), 1);
        check.same("the last but one", Check.write(desk, "(06)(15)(24)(01)").rank(0), 5038);
        check.same("the last", Check.write(desk, "(06)(15)(24)").rank(0), 5039);
        check.same("the only one", Check.write(desk, "()").rank(4), 0);
        PermutationDesk square = Check.desk(4, "(0123)", "(02)");
        String[] texts = {"()", "(13)", "(01)(23)", "a", "(02)", "a^2", "a'", "(03)(12)"};
        for (int k = 0; k < texts.length; k++) {
            check.same(texts[k], Check.write(square, texts[k]).rank(0), k);
        }
    }

    private static void rankOfNoMember() {
        check.sentence("else -1.");
        PermutationDesk square = Check.desk(4, "(0123)", "(02)");
        for (String text : new String[] {"(01)", "(12)", "(23)", "(03)", "(012)", "(123)", "(0132)", "(0213)"}) {
            check.same(text, Check.write(square, text).rank(0), -1);
        }
        check.same("in the identity alone", Check.write(square, "a").rank(1), -1);
        PermutationDesk even = all(7);
        even.derived(0, 1);
        check.same("beside the first", Check.write(even, "(56)").rank(1), -1);
        check.same("the last", Check.write(even, "(06)(15)(24)").rank(1), -1);
        check.same("the last that is there", Check.write(even, "(06)(15)(24)(01)").rank(1), 2519);
    }

    private static void rankInNoSlot() {
        check.sentence("rank: IndexOutOfBoundsException if there is no such slot;");
        PermutationDesk desk = five();
        for (int slot : NO_SLOTS) {
            check.index("slot " + slot, () -> desk.rank(slot));
        }
        int[] ranks = {9, -1, -1, -1, -1};
        for (int slot = 0; slot <= 4; slot++) {
            check.same("slot " + slot, desk.rank(slot), ranks[slot]);
        }
    }

    private static void rankOfNoExpression() {
        check.sentence("rank: IllegalArgumentException if the text is no expression.");
        for (int slot = 0; slot <= 4; slot++) {
            int good = slot;
            PermutationDesk desk = five();
            for (String text : new String[] {"", "c", "(4)", "(0", "a)", "{{{{{a}}}}}"}) {
                check.argument(text, () -> Check.write(desk, text).rank(good));
            }
            check.same("an expression", Check.write(desk, "{{{{()}}}}").rank(slot), 0);
        }
    }

    private static void element() {
        check.sentence("Where the element of a slot before which there are so many lesser ones takes a point.");
        PermutationDesk desk = all(7);
        for (int p = 0; p < 7; p++) {
            check.same("the first", desk.element(0, 0, p), p);
            check.same("the second", desk.element(0, 1, p), p < 5 ? p : 11 - p);
            check.same("the last", desk.element(0, 5039, p), 6 - p);
            check.same("the only one", desk.element(4, 0, p), p);
        }
        PermutationDesk five = five();
        check.text("slot 2", Check.elements(five, 4, 2), "0123 1032 2301 3210");
        check.text("slot 3", Check.elements(five, 4, 3), "0123 0132");
        check.text("slot 4", Check.elements(five, 4, 4), "0123 0213 1023 1203 2013 2103");
    }

    private static void elementThatIsNot() {
        check.sentence("element: IndexOutOfBoundsException if there is no such slot, element or point.");
        PermutationDesk desk = five();
        for (int slot : NO_SLOTS) {
            check.index("slot " + slot, () -> desk.element(slot, 0, 0));
        }
        for (int point : new int[] {-1, 4, 5, 7, 16, LEAST, MOST}) {
            check.index("point " + point, () -> desk.element(0, 0, point));
        }
        check.index("all three", () -> desk.element(-1, -1, -1));
        int[] orders = {24, 12, 4, 2, 6};
        int[] lasts = {3, 3, 3, 0, 2};
        for (int k = 0; k <= 4; k++) {
            int slot = k;
            int size = orders[k];
            check.same("the last of slot " + slot, desk.element(slot, size - 1, 0), lasts[slot]);
            for (int rank : new int[] {-1, size, size + 1, -size, 5040, LEAST, MOST}) {
                check.index("element " + rank + " of slot " + slot, () -> desk.element(slot, rank, 0));
            }
        }
        PermutationDesk all = all(7);
        check.same("the last of all", all.element(0, 5039, 0), 6);
        check.index("one more", () -> all.element(0, 5040, 0));
        check.index("the identity alone has no second", () -> all.element(1, 1, 0));
    }

    private static void orbit() {
        check.sentence("Where the elements of a slot take a point: bit p for point p.");
        for (int degree = 1; degree <= 7; degree++) {
            PermutationDesk desk = all(degree);
            for (int p = 0; p < degree; p++) {
                check.same("all go everywhere", desk.orbit(0, p), (1 << degree) - 1);
                check.same("the identity leaves it", desk.orbit(4, p), 1 << p);
            }
        }
        PermutationDesk two = Check.desk(7, "(02)(46)", "(26)", "(13)");
        int[] orbits = {85, 10, 85, 10, 85, 32, 85};
        for (int p = 0; p < 7; p++) {
            check.same("point " + p, two.orbit(0, p), orbits[p]);
        }
    }

    private static void orbitThatIsNot() {
        check.sentence("orbit: IndexOutOfBoundsException if there is no such slot or point.");
        PermutationDesk desk = five();
        for (int slot : NO_SLOTS) {
            check.index("slot " + slot, () -> desk.orbit(slot, 0));
        }
        for (int k = 0; k <= 4; k++) {
            int slot = k;
            for (int point : new int[] {-1, 4, 5, 7, 31, 32, 33, LEAST, MOST}) {
                check.index("point " + point + " of slot " + slot, () -> desk.orbit(slot, point));
            }
        }
        check.index("both", () -> desk.orbit(5, 4));
        int[] orbits = {15, 15, 15, 12, 8};
        for (int slot = 0; slot <= 4; slot++) {
            check.same("the last point in slot " + slot, desk.orbit(slot, 3), orbits[slot]);
        }
    }
}
