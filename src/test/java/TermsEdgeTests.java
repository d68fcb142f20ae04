/**
 * Each sentence of the document's part 'Terms' that names a boundary case, on both sides of the boundary. What
 * an exception leaves behind, and which one comes first, stands in RefusalTests.
 */
public final class TermsEdgeTests {
    private static final Check check = new Check("TermsEdgeTests");
    private static final int[] FACTORIALS = {1, 1, 2, 6, 24, 120, 720, 5040};

    public static void main(String[] args) {
        calls();
        points();
        cyclesOfPoints();
        orderOfElements();
        groupsMade();
        slots();
        generators();
        generatorsAsManyAsThereAre();
        otherSlots();
        imagesThatMayBe();
        textLength();
        textCharacters();
        oneOrMoreFactors();
        productFromLeftToRight();
        anyNumberOfSigns();
        signsOneAfterTheOther();
        inverses();
        powers();
        exponents();
        letters();
        differentPoints();
        roundTheCycle();
        shortCycles();
        commutators();
        twoExpressions();
        braces();
        fourBrackets();
        bracketsSideBySide();
        blanks();
        eachGeneratorHasAnImage();
        homomorphisms();
        kernels();
        check.end();
    }

    private static void good(int degree, PermutationDesk desk, String text, String want) {
        check.text("value of " + text + " in degree " + degree, Check.values(desk, degree, text), want);
    }

    private static void bad(PermutationDesk desk, String text) {
        check.argument("value of " + text, () -> Check.write(desk, text).value(0));
    }

    /** 0123.. up to a degree: the identity's images. */
    private static String upTo(int degree) {
        return "0123456".substring(0, degree);
    }

    /** All permutations of a degree. */
    private static PermutationDesk all(int degree) {
        return Check.desk(degree, "(" + upTo(degree) + ")", degree == 1 ? "()" : "(01)");
    }

    private static void calls() {
        check.sentence("An object is used for at most 512 calls after it has been made");
        PermutationDesk desk = new PermutationDesk(3);
        String text = "(01)(12)(23)(03)";
        int calls = 0;
        for (; calls < text.length(); calls++) {
            desk.type(text.charAt(calls));
        }
        for (; calls < 510; calls += 2) {
            desk.generate();
            desk.forget();
        }
        desk.generate();
        check.same("the 512th call, if it is order", desk.order(0), 3);
    }

    private static void points() {
        check.sentence("POINTS are 0 .. n - 1, n the DEGREE (1 to 7).");
        for (int degree = 1; degree <= 7; degree++) {
            int d = degree;
            PermutationDesk desk = Check.write(all(d), "()");
            check.same("value of point 0", desk.value(0), 0);
            check.same("value of the last point", desk.value(d - 1), d - 1);
            check.same("element's point 0", desk.element(0, 0, 0), 0);
            check.same("element's last point", desk.element(0, 0, d - 1), d - 1);
            check.same("orbit of point 0", desk.orbit(0, 0), (1 << d) - 1);
            check.same("orbit of the last point", desk.orbit(0, d - 1), (1 << d) - 1);
            for (int point : new int[] {-1, d, d + 1, 8, 16, 32, Integer.MIN_VALUE, Integer.MAX_VALUE}) {
                String of = " of point " + point + " in degree " + d;
                check.index("value" + of, () -> desk.value(point));
                check.index("element" + of, () -> desk.element(0, 0, point));
                check.index("orbit" + of, () -> desk.orbit(0, point));
            }
        }
    }

    private static void cyclesOfPoints() {
        check.sentence("different points' digits");
        for (int degree = 1; degree <= 7; degree++) {
            PermutationDesk desk = Check.desk(degree);
            for (char c = ' '; c <= '~'; c++) {
                String text = "(" + c + ")";
                if (c >= '0' && c < '0' + degree) {
                    good(degree, desk, text, upTo(degree));
                } else {
                    bad(desk, text);
                }
                // Five or more calls for each of 95 characters: a new desk in time, for the 512 of each.
                desk = c % 24 == 0 ? Check.desk(degree) : desk;
            }
        }
    }

    private static void orderOfElements() {
        check.sentence("one is less than another one if at the least point where they differ its image is less.");
        PermutationDesk desk = all(7);
        String[][] rows = {{"()", "0"}, {"(56)", "1"}, {"(45)", "2"}, {"(16)(25)(34)", "719"}, {"(01)", "720"},
            {"(012)", "840"}, {"(06)(15)(24)", "5039"}, {"(06)(15)(24)(23)", "5033"}, {"(0654321)", "4320"}};
        for (String[] row : rows) {
            check.same("rank of " + row[0], Check.write(desk, row[0]).rank(0), Integer.parseInt(row[1]));
        }
        check.same("the last whose point 0 stays", desk.element(0, 719, 0), 0);
        check.same("the first whose point 0 goes", desk.element(0, 720, 0), 1);
        check.text("three points", Check.elements(all(3), 3, 0), "012 021 102 120 201 210");
        check.text("two points", Check.elements(all(2), 2, 0), "01 10");
        check.text("one point", Check.elements(all(1), 1, 0), "0");
    }

    private static void groupsMade() {
        check.sentence("the group MADE by some elements is the least one that has them all.");
        check.text("by none", Check.elements(Check.desk(3), 3, 0), "012");
        check.text("by the identity", Check.elements(Check.desk(3, "()"), 3, 0), "012");
        check.text("by one of order 2", Check.elements(Check.desk(3, "(02)"), 3, 0), "012 210");
        check.text("by one of order 3, with its inverse", Check.elements(Check.desk(3, "(012)"), 3, 0), "012 120 201");
        check.text("by two, with their products", Check.elements(Check.desk(4, "(01)", "(23)"), 4, 0),
            "0123 0132 1023 1032");
        check.text("by one twice", Check.elements(Check.desk(3, "(02)", "a"), 3, 0), "012 210");
        for (int degree = 1; degree <= 7; degree++) {
            check.same("all of degree " + degree, all(degree).order(0), FACTORIALS[degree]);
        }
    }

    private static void slots() {
        check.sentence("There are SLOTS 0 .. 4, each with a group;");
        PermutationDesk desk = Check.desk(4, "(0123)", "(01)");
        for (int to = 1; to <= 4; to++) {
            desk.stabiliser(0, (1 << to) - 1, false, to);
        }
        int[] orders = {24, 6, 2, 1, 1};
        for (int slot = 0; slot <= 4; slot++) {
            check.same("order of slot " + slot, desk.order(slot), orders[slot]);
        }
        for (int slot : new int[] {-1, 5, 6, 8, -5, 1 << 8, Integer.MIN_VALUE, Integer.MAX_VALUE}) {
            check.index("order of slot " + slot, () -> desk.order(slot));
        }
    }

    private static void generators() {
        check.sentence("slot 0 is the group made by the GENERATORS a, b, .. , f (0 .. 5)");
        String[] texts = {"(01)", "(12)", "(23)", "(34)", "(45)", "(56)"};
        PermutationDesk desk = Check.desk(7);
        for (int k = 0; k < 6; k++) {
            check.same("order behind " + k, desk.order(0), FACTORIALS[k + 1]);
            check.same("the next one", Check.write(desk, texts[k]).generate(), k + 1);
            check.same("the letter's element", Check.write(desk, "" + (char) ('a' + k)).value(k), k + 1);
            desk.image(k);
        }
        check.same("order behind the last", desk.order(0), 5040);
        check.yes("each has the image that it was given", desk.extend());
        check.index("generator 6", () -> desk.image(6));
        bad(desk, "g");
    }

    private static void generatorsAsManyAsThereAre() {
        check.sentence("GENERATORS a, b, .. , f (0 .. 5), as many as there are;");
        for (int count = 0; count <= 6; count++) {
            PermutationDesk desk = Check.desk(3);
            for (int k = 0; k < count; k++) {
                Check.write(desk, "(012)").generate();
            }
            for (int k = 0; k < 8; k++) {
                int generator = k;
                String letter = "" + (char) ('a' + k);
                if (k < count) {
                    good(3, desk, letter, "120");
                    check.text("image of " + k, Check.answer(desk, d -> done(d, generator)), "0");
                } else {
                    bad(desk, letter);
                    Check.write(desk, "()");
                    check.index("image of " + k + ", there being " + count, () -> desk.image(generator));
                }
            }
        }
    }

    private static int done(PermutationDesk desk, int generator) {
        desk.image(generator);
        return 0;
    }

    private static void otherSlots() {
        check.sentence("the other slots have any groups, at first the identity alone.");
        PermutationDesk desk = all(4);
        for (int slot = 1; slot <= 4; slot++) {
            check.text("slot " + slot + " at first", Check.elements(desk, 4, slot), "0123");
        }
        for (int slot = 1; slot <= 4; slot++) {
            check.same("all of slot 0", desk.stabiliser(0, 0, true, slot), 24);
        }
        desk.forget();
        for (int slot = 1; slot <= 4; slot++) {
            check.same("a group that slot 0 has no part in", desk.order(slot), 24);
        }
    }

    private static void imagesThatMayBe() {
        check.sentence("Each generator may have an IMAGE, an element.");
        PermutationDesk desk = Check.desk(3, "(012)", "(01)");
        check.state("no image", desk::extend);
        Check.write(desk, "()").image(1);
        check.state("an image of the last one alone", desk::extend);
        Check.write(desk, "()").image(0);
        check.yes("an image of each, the identity", desk.extend());
        Check.write(desk, "a").image(0);
        check.no("another image", desk.extend());
    }

    private static void textLength() {
        check.sentence("THE TEXT is a row of at most 24 characters");
        PermutationDesk desk = Check.desk(3, "(012)");
        String[] texts = {"aaaaaaaaaaaaaaaaaaaaaaa", "aaaaaaaaaaaaaaaaaaaaaaaa", "aaaaaaaaaaaaaaaaaaaaaaaaa"};
        String[] wants = {"201", "012", "012"};
        for (int k = 0; k < 3; k++) {
            good(3, desk, texts[k], wants[k]);
        }
        good(3, desk, "{aaaaaaaaaaaaaaaaaaaaaa}", "120");
        bad(desk, "{aaaaaaaaaaaaaaaaaaaaaaa}");
        bad(desk, "[aaaaaaaaaaaaaaaaaaaaa,a]");
        good(3, desk, "[aaaaaaaaaaaaaaaaaaaa,a]", "012");
        bad(desk, "()()()()()()()()()()()(0)");
        good(3, desk, "()()()()()()()()()()(01)", "102");
        good(3, desk, "aaaaaaaaaaaaaaaaaaaaaa^2", "201");
        bad(desk, "aaaaaaaaaaaaaaaaaaaaaaa^2");
    }

    private static void textCharacters() {
        check.sentence("characters 32 .. 126.");
        PermutationDesk desk = Check.desk(1);
        for (int c = 0; c <= Character.MAX_VALUE; c++) {
            if (c % 200 == 0) {
                desk = Check.desk(1);
            }
            desk.wipe();
            check.same("character " + c, desk.type((char) c) ? 1 : 0, c >= 32 && c <= 126 ? 1 : 0);
        }
    }

    private static void oneOrMoreFactors() {
        check.sentence("It is an EXPRESSION: one or more FACTORS");
        PermutationDesk desk = Check.desk(4, "(0123)");
        bad(desk, "");
        good(4, desk, "a", "1230");
        good(4, desk, "aa", "2301");
        good(4, desk, "aaaaaaaaaaaaaaaaaaaaaaa", "3012");
        good(4, desk, "aaaaaaaaaaaaaaaaaaaaaaaa", "0123");
        good(4, desk, "()a", "1230");
        for (String text : new String[] {"{}", "a{}", "{}a", "{{}}", "[,]", "[a,]", "[,a]", "[{},a]", "[a,{}]"}) {
            bad(desk, text);
        }
    }

    private static void productFromLeftToRight() {
        check.sentence("whose product it is, from left to right.");
        PermutationDesk desk = Check.desk(3, "(01)", "(12)");
        good(3, desk, "ab", "201");
        good(3, desk, "ba", "120");
        good(3, desk, "(01)(12)", "201");
        good(3, desk, "aba", "210");
        good(3, desk, "abab", "120");
        good(3, desk, "{ab}{ab}b", "210");
    }

    private static void anyNumberOfSigns() {
        check.sentence("A factor is a PRIMARY and any number of signs behind it");
        PermutationDesk desk = Check.desk(5, "(01234)");
        StringBuilder text = new StringBuilder("a");
        for (int signs = 0; signs <= 23; signs++) {
            good(5, desk, text.toString(), signs % 2 == 0 ? "12340" : "40123");
            desk = Check.desk(5, "(01234)");
            text.append('\'');
        }
        good(5, desk, "a^2^2^2^2^2^2^2^2^2^2^2", "34012");
        good(5, desk, "a^2^2^2^2^2^2^2^2^2^2^2'", "23401");
        bad(desk, "'");
        bad(desk, "^2");
        bad(desk, "'a");
        bad(desk, "^2a");
        bad(desk, "{'}");
        bad(desk, "{^2}");
        bad(desk, "[',a]");
        bad(desk, "[a,']");
        bad(desk, "(')");
        bad(desk, "(0')");
    }

    private static void signsOneAfterTheOther() {
        check.sentence("signs behind it, one after the other");
        PermutationDesk desk = Check.desk(5, "(01234)", "(01)");
        good(5, desk, "a^2^3", "12340");
        good(5, desk, "a^2'", "34012");
        good(5, desk, "a'^2", "34012");
        good(5, desk, "a'^2'", "23401");
        good(5, desk, "a^0^3", "01234");
        good(5, desk, "a^3^0", "01234");
        good(5, desk, "ba^2", "32401");
        good(5, desk, "b^2a", "12340");
        good(5, desk, "a'b", "41023");
        good(5, desk, "{ab}'", "04123");
        good(5, desk, "(01)'(123)^2", "30124");
    }

    private static void inverses() {
        check.sentence("' for the inverse");
        PermutationDesk desk = Check.desk(7, "(0123456)", "(01)", "()");
        good(7, desk, "a'", "6012345");
        good(7, desk, "a''", "1234560");
        good(7, desk, "b'", "1023456");
        good(7, desk, "c'", "0123456");
        good(7, desk, "aa'", "0123456");
        good(1, Check.desk(1), "()'", "0");
    }

    private static void powers() {
        check.sentence("^ and a digit d 0 .. 9 for the d-th power (the 0-th is the identity).");
        PermutationDesk desk = Check.desk(7, "(0123456)", "(012)(34)");
        String twice = "01234560123456";
        for (int d = 0; d <= 9; d++) {
            good(7, desk, "a^" + d, twice.substring(d % 7, d % 7 + 7));
        }
        String[] wants = {"0123456", "1204356", "2013456", "0124356", "1203456", "2014356"};
        for (int d = 0; d <= 9; d++) {
            good(7, desk, "b^" + d, wants[d % 6]);
        }
        good(7, desk, "()^0", "0123456");
        good(7, desk, "{ab}^0a", "1234560");
        good(7, desk, "(01)^0^9", "0123456");
        good(1, Check.desk(1), "()^9", "0");
    }

    private static void exponents() {
        check.sentence("^ and a digit d 0 .. 9");
        PermutationDesk desk = Check.desk(3, "(012)");
        for (char c = ' '; c <= '~'; c++) {
            if (c % 16 == 0) {
                desk = Check.desk(3, "(012)");
            }
            String text = "a^" + c;
            if (c >= '0' && c <= '9') {
                good(3, desk, text, "012012".substring((c - '0') % 3, (c - '0') % 3 + 3));
            } else {
                bad(desk, text);
            }
        }
        for (String text : new String[] {"a^", "a^^2", "a^'2", "a^'", "a^10", "a^00", "a2", "a^2^", "{a^}", "[a^,a]"}) {
            bad(Check.desk(3, "(012)"), text);
        }
    }

    private static void letters() {
        check.sentence("Primaries: a letter of a generator that is there;");
        PermutationDesk desk = Check.desk(3, "(012)", "(01)", "(02)");
        for (char c = ' '; c <= '~'; c++) {
            if (c % 32 == 0) {
                desk = Check.desk(3, "(012)", "(01)", "(02)");
            }
            if (c >= 'a' && c <= 'c') {
                good(3, desk, "" + c, c == 'a' ? "120" : c == 'b' ? "102" : "210");
            } else {
                bad(desk, "" + c);
            }
        }
        desk.forget();
        bad(desk, "a");
        bad(Check.desk(3), "a");
        bad(Check.desk(3), "a^0");
        bad(Check.desk(3), "()a");
    }

    private static void differentPoints() {
        check.sentence("( and different points' digits and ), a CYCLE");
        for (int degree = 1; degree <= 7; degree++) {
            PermutationDesk desk = Check.desk(degree);
            good(degree, desk, "(" + upTo(degree) + ")", upTo(degree).substring(1) + "0");
            for (int p = 0; p < degree; p++) {
                bad(desk, "(" + upTo(degree) + p + ")");
                bad(desk, "(" + p + p + ")");
                good(degree, desk, "(" + p + ")(" + p + ")", upTo(degree));
            }
            bad(desk, "(" + upTo(degree));
            bad(desk, "(" + degree + ")");
            bad(desk, "(0" + degree + ")");
        }
        PermutationDesk desk = Check.desk(7);
        bad(desk, "(010)");
        bad(desk, "(0120)");
        bad(desk, "(0123451)");
        bad(desk, "(012345665432100123456)");
        for (String text : new String[] {"(", ")", "())", "(()", "((", "(0,1)", "(0,", "0", "01", "(00", "(7", "(0a", "(a",
            "(0'", "(0^2)", "(0)1", "(0)1)", "a(0", "{(0}", "[(0,(1)]"}) {
            bad(desk, text);
        }
    }

    private static void roundTheCycle() {
        check.sentence("each point goes to the next one, the last to the first");
        PermutationDesk desk = Check.desk(7);
        good(7, desk, "(0123456)", "1234560");
        good(7, desk, "(6543210)", "6012345");
        good(7, desk, "(06)", "6123450");
        good(7, desk, "(60)", "6123450");
        good(7, desk, "(135)", "0325416");
        good(7, desk, "(531)", "0521436");
        good(2, Check.desk(2), "(10)", "10");
    }

    private static void shortCycles() {
        check.sentence("(one point, or none: the identity)");
        for (int degree = 1; degree <= 7; degree++) {
            PermutationDesk desk = Check.desk(degree);
            good(degree, desk, "()", upTo(degree));
            good(degree, desk, "()'", upTo(degree));
            for (int p = 0; p < degree; p++) {
                good(degree, desk, "(" + p + ")", upTo(degree));
            }
            check.same("the group that () makes", desk.generate(), 1);
            check.same("its order", desk.order(0), 1);
        }
        good(3, Check.desk(3), "(01)()(2)", "102");
    }

    private static void commutators() {
        check.sentence("the COMMUTATOR x' y' x y;");
        PermutationDesk desk = Check.desk(5, "(01234)", "(01)");
        good(5, desk, "[a,b]", "12034");
        good(5, desk, "a'b'ab", "12034");
        good(5, desk, "[b,a]", "20134");
        good(5, desk, "b'a'ba", "20134");
        good(5, desk, "[a,a]", "01234");
        good(5, desk, "[a,()]", "01234");
        good(5, desk, "[(),b]", "01234");
        good(5, desk, "[a,b]'", "20134");
        good(5, desk, "[a,b]^3", "01234");
        good(1, Check.desk(1), "[(),(0)]", "0");
    }

    private static void twoExpressions() {
        check.sentence("[ x , y ] with two expressions");
        PermutationDesk desk = Check.desk(5, "(01234)", "(01)");
        good(5, desk, "[ab,b'a]", Check.values(desk, 5, "{ab}'{b'a}'{ab}{b'a}"));
        for (String text : new String[] {"[]", "[a]", "[a,b", "a,b]", "[a,b,a]", "[a,b,]", "[,a,b]", "[a,,b]", "[ab]",
            "[a;b]", "[a,b)", "(a,b)", "[a,b}", "{a,b}", "{a,b]", "a,b", ",", "a,", ",b", "[a,b]]", "[[a,b]", "[a],[b]"}) {
            bad(desk, text);
        }
    }

    private static void braces() {
        check.sentence("{ and an expression and }.");
        PermutationDesk desk = Check.desk(3, "(012)", "(01)");
        good(3, desk, "{a}", "120");
        good(3, desk, "{ab}'", "021");
        good(3, desk, "{ab}^0", "012");
        good(3, desk, "{()}", "012");
        for (String text : new String[] {"{", "}", "{}", "{a", "a}", "{a}}", "{{a}", "}a{", "{a]", "[a}", "{a)", "(a}"}) {
            bad(desk, text);
        }
    }

    /** A text with brackets in one another, [ or { by the bits of kinds, in the first or the second place. */
    private static String nested(int deep, int kinds, boolean second) {
        String text = "a";
        for (int k = 0; k < deep; k++) {
            if ((kinds >>> k & 1) == 0) {
                text = "{" + text + "}";
            } else {
                text = second ? "[b," + text + "]" : "[" + text + ",b]";
            }
        }
        return text;
    }

    private static void fourBrackets() {
        check.sentence("At most 4 brackets [ and { are in one another.");
        for (int deep = 1; deep <= 5; deep++) {
            for (int kinds = 0; kinds < 2 << deep; kinds++) {
                String text = nested(deep, kinds >>> 1, (kinds & 1) == 1);
                PermutationDesk desk = Check.desk(5, "(01234)", "(01)");
                check.text(text, Check.answer(desk, d -> {
                    Check.write(d, text);
                    return d.value(0) < 5;
                }), deep <= 4 ? "true" : "IllegalArgumentException");
            }
        }
        PermutationDesk desk = Check.desk(5, "(01234)", "(01)");
        good(5, desk, "{{{{a}}}}", "12340");
        bad(desk, "{{{{{a}}}}}");
        good(5, desk, "[[[[a,b],b],b],b]", "12034");
        bad(desk, "[[[[[a,b],b],b],b],b]");
        bad(desk, "{{{{{{{{{{{a}}}}}}}}}}}");
        bad(desk, "{{{{{{{{{{{{{{{{{{{{{{{{");
        bad(desk, "[[[[[[[[[[[[[[[[[[[[[[[[");
    }

    private static void bracketsSideBySide() {
        check.sentence("brackets [ and { are in one another");
        PermutationDesk desk = Check.desk(5, "(01234)", "(01)");
        good(5, desk, "{a}{a}{a}{a}{a}{a}", "12340");
        good(5, desk, "{{{{a}}}}{{{{a}}}}", "23401");
        good(5, desk, "[{{{a}}},{{{b}}}]", "12034");
        bad(desk, "[{{{a}}},{{{{b}}}}]");
        bad(desk, "[{{{{a}}}},{{{b}}}]");
        bad(desk, "{{{{a}}}}{{{{{a}}}}}");
        good(5, desk, "{{{{(01)}}}}", "10234");
        good(5, desk, "{{{{()}}}}(01)", "10234");
        good(5, desk, "{{{{a}'}^2}^1}'", "23401");
    }

    private static void blanks() {
        check.sentence("(There are no blanks.)");
        String[] texts = {"a", "ab", "a'", "a^2", "(01)", "()", "[a,b]", "{a}"};
        for (String text : texts) {
            PermutationDesk desk = Check.desk(3, "(012)", "(01)");
            check.text(text, Check.answer(Check.write(desk, text), d -> d.value(0) < 3), "true");
            for (int k = 0; k <= text.length(); k++) {
                bad(desk, text.substring(0, k) + " " + text.substring(k));
            }
        }
        bad(Check.desk(3), " ");
    }

    private static void eachGeneratorHasAnImage() {
        check.sentence("The images are a HOMOMORPHISM if each generator has one");
        check.yes("no generators", Check.desk(3).extend());
        for (int missing = 0; missing < 6; missing++) {
            PermutationDesk desk = Check.desk(2, "(01)", "a", "a", "a", "a", "a");
            for (int k = 0; k < 6; k++) {
                if (k != missing) {
                    Check.write(desk, "a").image(k);
                }
            }
            check.state("all but image " + missing, desk::extend);
            check.state("all but image " + missing + ", kernel", () -> desk.kernel(1));
            Check.write(desk, "a").image(missing);
            check.yes("all", desk.extend());
            check.same("all, kernel", desk.kernel(1), 1);
        }
    }

    private static void homomorphisms() {
        check.sentence("whenever a product of generators and inverses is the identity, that of their images is, too.");
        String[][][] rows = {
            {{"()"}, {"()"}, {"1"}}, {{"()"}, {"(01)"}, {"0"}}, {{"(01)"}, {"()"}, {"1"}}, {{"(01)"}, {"(23)(56)"}, {"1"}},
            {{"(01)"}, {"(012)"}, {"0"}}, {{"(012)"}, {"(01)"}, {"0"}}, {{"(012)"}, {"(654)(012)"}, {"1"}},
            {{"(0123)"}, {"(01)"}, {"1"}}, {{"(01)(23)"}, {"(0123)"}, {"0"}}, {{"(0123456)"}, {"(0246135)"}, {"1"}},
            {{"(01)", "(01)"}, {"(23)", "(23)"}, {"1"}}, {{"(01)", "(01)"}, {"(23)", "(24)"}, {"0"}},
            {{"(012)", "(021)"}, {"(345)", "(354)"}, {"1"}}, {{"(012)", "(021)"}, {"(345)", "(345)"}, {"0"}},
            {{"(01)", "(23)"}, {"(01)", "(01)"}, {"1"}}, {{"(01)", "(23)"}, {"(01)", "(12)"}, {"0"}},
            {{"(01)", "(12)"}, {"(01)", "(12)"}, {"1"}}, {{"(01)", "(12)"}, {"(01)", "(23)"}, {"0"}},
            {{"(01)", "(12)"}, {"(34)", "(34)"}, {"1"}}, {{"(01)", "(12)"}, {"(34)", "()"}, {"0"}},
            {{"(01)", "(12)", "(02)"}, {"(34)", "(34)", "(34)"}, {"1"}},
            {{"(01)", "(12)", "(02)"}, {"(34)", "(34)", "()"}, {"0"}}};
        for (String[][] row : rows) {
            PermutationDesk desk = Check.desk(7, row[0]);
            Check.images(desk, row[1]);
            String what = String.join(", ", row[0]) + " to " + String.join(", ", row[1]);
            check.same(what, desk.extend() ? 1 : 0, Integer.parseInt(row[2][0]));
            check.text(what + ", kernel", Check.answer(desk, d -> d.kernel(1) > 0),
                row[2][0].equals("1") ? "true" : "IllegalStateException");
        }
    }

    private static void kernels() {
        check.sentence("the KERNEL are those whose image is the identity.");
        for (int degree = 1; degree <= 7; degree++) {
            PermutationDesk desk = all(degree);
            Check.images(desk, "a", "b");
            check.same("of the identity", desk.kernel(1), 1);
            Check.images(desk, "()", "()");
            check.same("of all to the identity", desk.kernel(1), FACTORIALS[degree]);
            String swap = degree == 1 ? "()" : "(01)";
            Check.images(desk, degree % 2 == 0 ? swap : "()", swap);
            check.same("of the sign", desk.kernel(1), degree == 1 ? 1 : FACTORIALS[degree] / 2);
        }
        check.same("of no generators", Check.desk(7).kernel(1), 1);
    }
}
