import java.util.ArrayList;
import java.util.List;

/**
 * Where the grammar ends: all short texts of some characters, and those that are one such character away from a long
 * right one, on the program and on the slow reference beside it.
 */
public final class TextTests {
    private static final Check check = new Check("TextTests");
    /** Of each kind of character one that is right, and beside it one that is not: c is no generator, 3 no point. */
    private static final String CHARACTERS = "abc(013)[],{}'^9 ~";
    private static final int DEGREE = 3;
    private static final int LONGEST = 4;
    private static final String[] GENERATORS = {"(012)", "(01)"};
    private static final String[] LONG_TEXTS = {"a", "(012)(01)(2)()", "[a,b]'^2", "{a^2b}'{ab}^9", "[[[[a,b],b],b],b]",
        "{{{{a}}}}{{{{b}}}}", "[{[{a},b]},{[a,{b}]}]'", "[a,[a,[a,[a,(12)]]]]ab", "a^0^1'^2'^3''^9ab'^2'b^3",
        "aaaaaaaaaaaaaaaaaaaaaaaa", "()()()()()()()()()()()()", "b'''''''''''''''''''''''", "[{{{a}}},{{{b}}}]{{{a}}}"};

    /** A desk takes 512 calls, and one text takes at most 28. */
    private static final int TEXTS_OF_A_DESK = 15;

    private static PermutationDesk desk;
    private static ReferenceDesk reference;
    private static int textsLeft;

    public static void main(String[] args) {
        shortTexts();
        nearlyRightTexts();
        check.end();
    }

    private static void shortTexts() {
        List<String> texts = new ArrayList<>(List.of(""));
        for (int length = 0; length <= LONGEST; length++) {
            List<String> longer = new ArrayList<>();
            for (String text : texts) {
                compare(text);
                for (char c : CHARACTERS.toCharArray()) {
                    longer.add(text + c);
                }
            }
            texts = longer;
        }
    }

    private static void nearlyRightTexts() {
        for (String text : LONG_TEXTS) {
            check.yes(text + " is right", compare(text));
            for (int k = 0; k <= text.length(); k++) {
                String before = text.substring(0, k);
                String behind = text.substring(k);
                for (char c : CHARACTERS.toCharArray()) {
                    compare(before + c + behind);
                    compare(before + c + (behind.isEmpty() ? "" : behind.substring(1)));
                }
                compare(before);
                compare(behind);
                compare(before + (behind.isEmpty() ? "" : behind.substring(1)));
            }
        }
    }

    private static boolean compare(String text) {
        makeDesksInTime();
        reference.wipe();
        for (char c : text.toCharArray()) {
            reference.type(c);
        }
        Check.write(desk, text);
        String want = expected();
        check.text(text, Check.answer(desk, TextTests::valuesTold), want);
        return want.length() == DEGREE;
    }

    private static void makeDesksInTime() {
        if (textsLeft == 0) {
            desk = Check.desk(DEGREE, GENERATORS);
            reference = new ReferenceDesk(DEGREE - 1);
            for (String generator : GENERATORS) {
                reference.wipe();
                generator.chars().forEach(c -> reference.type((char) c));
                reference.generate();
            }
            textsLeft = TEXTS_OF_A_DESK;
        }
        textsLeft--;
    }

    private static String valuesTold(PermutationDesk desk) {
        return "" + desk.value(0) + desk.value(1) + desk.value(2);
    }

    private static String expected() {
        try {
            return "" + reference.value(0) + reference.value(1) + reference.value(2);
        } catch (IllegalArgumentException e) {
            return "IllegalArgumentException";
        }
    }
}
