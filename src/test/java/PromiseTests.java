/** Each promise of the document with ordinary inputs, edges and wrong inputs, worked out by hand. */
public final class PromiseTests {
    private static final Check check = new Check("PromiseTests");

    public static void main(String[] args) {
        aNewObject();
        type();
        wipe();
        valueOfExpressions();
        valueOfWrongTexts();
        generate();
        forget();
        image();
        extend();
        kernel();
        images();
        stabiliser();
        centraliser();
        closure();
        derived();
        order();
        rank();
        element();
        orbit();
        slotsThatTakeFromThemselves();
        exceptionsLeaveAllAsItWas();
        check.end();
    }

    private static void aNewObject() {
        int[][] degrees = {{0, 1}, {1, 2}, {2, 3}, {3, 4}, {4, 5}, {5, 6}, {6, 7}, {7, 7}, {8, 1}, {14, 7},
            {15, 7}, {-1, 7}, {-2, 7}, {-3, 6}, {-8, 1}, {Integer.MIN_VALUE, 1}, {Integer.MAX_VALUE, 7}};
        for (int[] row : degrees) {
            PermutationDesk desk = Check.write(new PermutationDesk(row[0]), "()");
            int last = row[1] - 1;
            check.same("1: last point of " + row[0], desk.value(last), last);
            check.index("1: point behind the last of " + row[0], () -> desk.value(last + 1));
        }
        PermutationDesk fresh = new PermutationDesk(4);
        check.argument("1: the text is empty", () -> fresh.value(0));
        for (int slot = 0; slot <= 4; slot++) {
            check.same("1: order of slot " + slot, fresh.order(slot), 1);
            check.text("1: slot " + slot, Check.elements(fresh, 5, slot), "01234");
        }
        check.yes("1: no generators, so nothing lacks an image", fresh.extend());
        check.index("1: no generator 0", () -> Check.write(fresh, "()").image(0));
    }

    private static void type() {
        PermutationDesk desk = Check.desk(7);
        for (int c : new int[] {0, 31, 127, 128, 255, 256 + '(', 65535}) {
            check.no("2: character " + c, desk.type((char) c));
        }
        check.yes("2: (", desk.type('('));
        check.no("2: refused inside", desk.type((char) 31));
        check.yes("2: )", desk.type(')'));
        check.same("2: what was refused is not there", desk.value(3), 3);
        check.yes("2: character 32", desk.type(' '));
        check.yes("2: character 126", desk.type('~'));
        check.argument("2: neither is in an expression", () -> desk.value(0));
        Check.write(desk, "");
        for (int k = 0; k < 24; k++) {
            check.yes("2: character number " + k, desk.type("(01)".charAt(k % 4)));
        }
        check.no("2: the 25th", desk.type('\''));
        check.no("2: the 25th again", desk.type((char) 300));
        check.same("2: six swaps", desk.value(0), 0);
        desk.wipe();
        check.yes("2: after wipe", desk.type('('));
    }

    private static void wipe() {
        PermutationDesk desk = Check.desk(3, "(01)");
        desk.wipe();
        check.argument("3: empty", () -> desk.value(0));
        desk.wipe();
        check.argument("3: twice", () -> desk.value(0));
        check.text("3: generators stay", Check.values(desk, 3, "a"), "102");
        check.same("3: slots stay", desk.order(0), 2);
        Check.write(desk, "(01");
        check.text("3: nothing of the old text is left", Check.values(desk, 3, "(012)"), "120");
    }

    private static void valueOfExpressions() {
        String[][] rows = {{"()", "01234"}, {"(3)", "01234"}, {"(01)", "10234"}, {"(024)", "21430"},
            {"(420)", "41032"}, {"(01234)", "12340"}, {"a", "12340"}, {"b", "10234"}, {"ab", "02341"},
            {"ba", "21340"}, {"a'", "40123"}, {"a''", "12340"}, {"a^0", "01234"}, {"a^1", "12340"},
            {"a^2", "23401"}, {"a^9", "40123"}, {"a^2^3", "12340"}, {"a^3'", "23401"}, {"a'^3", "23401"},
            {"b^0'", "01234"}, {"{ab}'", "04123"}, {"{ab}^2", "03412"}, {"ab^2", "12340"}, {"ab'", "02341"},
            {"(012)(234)", "13042"}, {"(012)'(34)^3", "20143"}, {"[a,b]", "12034"}, {"[b,a]", "20134"},
            {"[a,b]'", "20134"}, {"[a,b]^2", "20134"}, {"[aa,b]", "10324"}, {"[a,a]", "01234"},
            {"[(012),(034)]", "30214"}, {"{{{{a}}}}", "12340"}, {"[{[{a},b]},b]", "12034"},
            {"{a}{b}{a}", "13402"}, {"[a,b][a,b][a,b]", "01234"}, {"()()()()()()()()()()()()", "01234"},
            {"bbbbbbbbbbbbbbbbbbbbbbbb", "01234"}, {"a'''''''''''''''''''''''", "40123"}};
        for (String[] row : rows) {
            PermutationDesk desk = Check.desk(5, "(01234)", "(01)");
            check.text("4: " + row[0], Check.values(desk, 5, row[0]), row[1]);
        }
        check.text("4: six letters", Check.values(Check.desk(7, "(01)", "(12)", "(23)", "(34)", "(45)", "(56)"),
            7, "abcdef"), "6012345");
        PermutationDesk one = Check.desk(1, "()");
        check.text("4: degree 1", Check.values(one, 1, "[a,(0)]'^7"), "0");
    }

    private static void valueOfWrongTexts() {
        String[] texts = {"", " ", "a ", " a", "a b", "c", "f", "g", "A", "`", "(", ")", "(0", "0)", "0", "(5)", "(9)",
            "(00)", "(010)", "(01234", "(012340)", "((0))", "(a)", "(0,1)", "( )", "(01))", "^2", "'", "'a", "a^", "a^a",
            "a^12", "a^-1", "a^(0)", "a^ 2", "^", "[", "]", "[]", "[,]", "[a]", "[a,]", "[,b]", "[a,b", "[a,b,a]",
            "[a,b}", "[a b]", "{", "}", "{}", "{a", "a}", "{a]", "{a,b}", "a,b", ",", "a,", "{{{{{a}}}}}",
            "[[[[[a,b],b],b],b],b]", "[a,{{{{b}}}}]", "{[a,[a,{[a,b]}]]}", "a*b", "[a',^2]", "{a}}", "a(", "a[", "a{",
            "~", "(/)", "(:)"};
        for (String text : texts) {
            PermutationDesk wrong = Check.desk(5, "(01234)", "(01)");
            check.argument("4: " + text, () -> Check.write(wrong, text).value(0));
            check.argument("4: a wrong text before a wrong point, " + text, () -> wrong.value(5));
        }
        PermutationDesk desk = Check.write(Check.desk(5, "(01234)", "(01)"), "a");
        for (int point : new int[] {-1, 5, 6, 7, 16, Integer.MIN_VALUE, Integer.MAX_VALUE}) {
            check.index("4: point " + point, () -> desk.value(point));
        }
        check.text("4: three brackets in a fourth", Check.values(desk, 5, "[[[[a,b],b],b],b]"), "12034");
        check.text("4: four, and four again", Check.values(desk, 5, "{{{{a}}}}{{{{a}}}}"), "23401");
        check.text("4: a cycle within four", Check.values(desk, 5, "{{{{(01)}}}}"), "10234");
    }

    private static void generate() {
        PermutationDesk desk = Check.desk(4);
        int[] orders = {1, 2, 2, 4, 24, 24};
        String[] texts = {"()", "(01)", "b", "(23)", "(0123)", "e'"};
        for (int k = 0; k < 6; k++) {
            check.same("5: generator " + k, Check.write(desk, texts[k]).generate(), k + 1);
            check.same("5: order with generator " + k, desk.order(0), orders[k]);
        }
        check.text("5: the letter is the element of its time", Check.values(desk, 4, "f"), "3012");
        check.state("5: a seventh", desk::generate);
        check.argument("5: a wrong text before the seventh", () -> Check.write(desk, "g").generate());
        check.same("5: six are left", desk.order(0), 24);
        PermutationDesk next = Check.desk(4, "(01)");
        check.argument("5: its own letter", () -> Check.write(next, "b").generate());
        check.argument("5: no text", () -> Check.write(next, "").generate());
        Check.images(next, "a");
        check.yes("5: a has an image", next.extend());
        check.same("5: b", Check.write(next, "a").generate(), 2);
        check.state("5: b has none", next::extend);
        next.forget();
        check.same("5: a anew", Check.write(next, "(01)").generate(), 1);
        check.state("5: a anew has none", next::extend);
    }

    private static void forget() {
        PermutationDesk desk = Check.desk(4, "(0123)", "(01)");
        desk.derived(0, 1);
        Check.images(desk, "a", "b");
        Check.write(desk, "(0123)");
        desk.forget();
        check.same("6: slot 0", desk.order(0), 1);
        check.text("6: slot 0 has the identity", Check.elements(desk, 4, 0), "0123");
        check.same("6: slot 1 stays", desk.order(1), 12);
        check.same("6: the text stays", desk.value(3), 0);
        check.yes("6: no generator lacks an image", desk.extend());
        check.index("6: no generator 0", () -> desk.image(0));
        check.argument("6: no letter a", () -> Check.write(desk, "a").value(0));
        check.same("6: from the first one again", Check.write(desk, "(02)").generate(), 1);
        check.same("6: the group anew", desk.order(0), 2);
        desk.forget();
        desk.forget();
        check.same("6: twice", desk.order(0), 1);
        for (int k = 1; k <= 6; k++) {
            check.same("6: six again", Check.write(desk, "(02)").generate(), k);
        }
    }

    private static void image() {
        PermutationDesk desk = Check.desk(4, "(01)", "(23)");
        Check.write(desk, "(012)");
        check.index("7: generator 2", () -> desk.image(2));
        check.index("7: generator -1", () -> desk.image(-1));
        check.index("7: generator 6", () -> desk.image(6));
        check.index("7: generator 2147483647", () -> desk.image(Integer.MAX_VALUE));
        check.state("7: none was set", desk::extend);
        desk.image(0);
        check.state("7: one is set", desk::extend);
        desk.image(1);
        check.no("7: both are set", desk.extend());
        check.same("7: the images", desk.images(1), 3);
        Check.images(desk, "b", "a");
        check.yes("7: set anew", desk.extend());
        check.same("7: the images anew", desk.images(1), 4);
        check.argument("7: a wrong text", () -> Check.write(desk, "c").image(0));
        check.argument("7: a wrong text before a wrong generator", () -> desk.image(2));
        check.yes("7: still as they were", desk.extend());
        check.text("7: an image is no generator", Check.values(desk, 4, "a"), "1023");
    }

    private static void extend() {
        check.yes("8: no generators", Check.desk(3).extend());
        PermutationDesk cyclic = Check.desk(6, "(012345)");
        String[][] rows = {{"a", "1"}, {"a'", "1"}, {"a^2", "1"}, {"a^0", "1"}, {"(01)", "1"}, {"(012)(34)", "1"},
            {"(0123)", "0"}, {"(01234)", "0"}, {"(0123)(45)", "0"}, {"(01)(23)(45)", "1"}};
        check.state("8: without an image", cyclic::extend);
        for (String[] row : rows) {
            Check.images(cyclic, row[0]);
            check.same("8: a goes to " + row[0], cyclic.extend() ? 1 : 0, Integer.parseInt(row[1]));
        }
        PermutationDesk symmetric = Check.desk(7, "(0123456)", "(01)");
        Check.images(symmetric, "(0246135)", "(02)");
        check.yes("8: conjugated", symmetric.extend());
        Check.images(symmetric, "(0246135)", "(01)");
        check.no("8: conjugated by two elements", symmetric.extend());
        Check.images(symmetric, "()", "(56)");
        check.yes("8: the sign", symmetric.extend());
        Check.images(symmetric, "(56)", "()");
        check.no("8: the sign of the wrong one", symmetric.extend());
        Check.images(symmetric, "(0123456)", "(12)(36)");
        check.no("8: into a lesser group", symmetric.extend());
        PermutationDesk repeated = Check.desk(5, "(01)", "(01)", "()");
        Check.images(repeated, "(34)", "(34)", "()");
        check.yes("8: equal generators, equal images", repeated.extend());
        Check.images(repeated, "(34)", "(24)", "()");
        check.no("8: equal generators, other images", repeated.extend());
        Check.images(repeated, "(34)", "(34)", "(34)");
        check.no("8: the identity's image", repeated.extend());
        PermutationDesk commuting = Check.desk(6, "(012)", "(345)");
        Check.images(commuting, "(012)", "(123)");
        check.no("8: images that do not commute", commuting.extend());
        Check.images(commuting, "(012)", "(021)");
        check.yes("8: images that do", commuting.extend());
    }

    private static void kernel() {
        PermutationDesk desk = Check.desk(4, "(0123)", "(01)");
        check.state("9: without images", () -> desk.kernel(1));
        Check.images(desk, "(02)", "(12)");
        check.same("9: on the three pairings", desk.kernel(1), 4);
        check.text("9: its elements", Check.elements(desk, 4, 1), "0123 1032 2301 3210");
        Check.images(desk, "(01)", "(01)");
        check.same("9: of the sign", desk.kernel(2), 12);
        check.same("9: it is the commutator group", desk.derived(0, 3), 12);
        check.text("9: element by element", Check.elements(desk, 4, 2), Check.elements(desk, 4, 3));
        Check.images(desk, "a", "b");
        check.same("9: of the identity", desk.kernel(4), 1);
        Check.images(desk, "()", "()");
        check.same("9: all", desk.kernel(4), 24);
        check.text("9: all elements", Check.elements(desk, 4, 4), Check.elements(desk, 4, 0));
        Check.images(desk, "(012)", "(01)");
        check.state("9: no homomorphism", () -> desk.kernel(4));
        check.same("9: slot 4 as it was", desk.order(4), 24);
        for (int to : new int[] {-1, 0, 5, Integer.MIN_VALUE}) {
            check.index("9: a wrong slot before a wrong homomorphism, " + to, () -> desk.kernel(to));
        }
        Check.write(desk, "(02)").generate();
        Check.images(desk, "()", "()");
        check.state("9: one image is missing", () -> desk.kernel(1));
        desk.forget();
        check.same("9: no generators", desk.kernel(4), 1);
        PermutationDesk cyclic = Check.desk(7, "(0123)(456)");
        Check.images(cyclic, "(01)(456)");
        check.same("9: of twelve onto six", cyclic.kernel(3), 2);
        check.text("9: the two", Check.elements(cyclic, 7, 3), "0123456 2301456");
        Check.write(cyclic, "(01)").generate();
        check.same("9: it stays when slot 0 grows", cyclic.order(3), 2);
    }

    private static void images() {
        PermutationDesk desk = Check.desk(5, "(01)", "(12)");
        check.state("10: without images", () -> desk.images(1));
        Check.images(desk, "(012)");
        check.state("10: one is missing", () -> desk.images(1));
        for (int to : new int[] {-1, 0, 5, Integer.MAX_VALUE}) {
            check.index("10: a wrong slot before a missing image, " + to, () -> desk.images(to));
        }
        Check.images(desk, "(012)", "(01234)");
        check.no("10: no homomorphism", desk.extend());
        check.same("10: a group all the same", desk.images(4), 60);
        check.same("10: in the slot", desk.order(4), 60);
        Check.images(desk, "(34)", "(34)");
        check.same("10: of the sign", desk.images(1), 2);
        check.text("10: its elements", Check.elements(desk, 5, 1), "01234 01243");
        check.same("10: slot 0 as it was", desk.order(0), 6);
        desk.forget();
        check.same("10: no generators", desk.images(1), 1);
        check.text("10: the identity alone", Check.elements(desk, 5, 1), "01234");
    }

    private static void stabiliser() {
        PermutationDesk desk = Check.desk(4, "(0123)", "(01)");
        int[][] rows = {{0, 0, 24}, {0, 1, 24}, {1, 0, 6}, {1, 1, 6}, {3, 0, 2}, {3, 1, 4}, {5, 1, 4}, {7, 0, 1},
            {7, 1, 6}, {15, 0, 1}, {15, 1, 24}, {8, 0, 6}, {12, 0, 2}, {10, 1, 4}};
        for (int[] row : rows) {
            String what = "11: set " + row[0] + (row[1] == 1 ? " whole" : "");
            check.same(what, desk.stabiliser(0, row[0], row[1] == 1, 2), row[2]);
            check.same(what + " in the slot", desk.order(2), row[2]);
        }
        desk.stabiliser(0, 5, true, 1);
        check.text("11: {0, 2} whole", Check.elements(desk, 4, 1), "0123 0321 2103 2301");
        desk.stabiliser(0, 5, false, 1);
        check.text("11: {0, 2} point by point", Check.elements(desk, 4, 1), "0123 0321");
        int[][] slots = {{-1, 1}, {5, 1}, {0, 0}, {0, 5}, {0, -1}, {5, 0}};
        for (int[] row : slots) {
            check.index("11: slots " + row[0] + ", " + row[1], () -> desk.stabiliser(row[0], 1, true, row[1]));
            check.index("11: wrong slots before a wrong set", () -> desk.stabiliser(row[0], 16, true, row[1]));
        }
        for (int set : new int[] {16, 17, -1, Integer.MIN_VALUE, 1 << 8}) {
            check.argument("11: set " + set, () -> desk.stabiliser(0, set, false, 1));
            check.argument("11: set " + set + " whole", () -> desk.stabiliser(0, set, true, 1));
        }
        check.same("11: slot 1 as it was", desk.order(1), 2);
        PermutationDesk seven = Check.desk(7, "(0123456)", "(12)(36)");
        check.same("11: a line of seven points", seven.stabiliser(0, 11, true, 1), 24);
        check.same("11: three points on no line", seven.stabiliser(0, 7, true, 1), 6);
        check.same("11: all points", seven.stabiliser(0, 127, true, 1), 168);
        check.argument("11: bit 7", () -> seven.stabiliser(0, 128, true, 1));
    }

    private static void centraliser() {
        PermutationDesk desk = Check.desk(5, "(01234)", "(01)");
        String[][] rows = {{"()", "120"}, {"(01)", "12"}, {"(01)(23)", "8"}, {"(012)", "6"}, {"(012)(34)", "6"},
            {"(0123)", "4"}, {"a", "5"}, {"(03142)", "5"}, {"(24)", "12"}};
        for (String[] row : rows) {
            int due = Integer.parseInt(row[1]);
            check.same("12: of " + row[0], Check.write(desk, row[0]).centraliser(0, 3), due);
            check.same("12: of " + row[0] + " in the slot", desk.order(3), due);
        }
        Check.write(desk, "(013)").centraliser(0, 1);
        check.text("12: of (013)", Check.elements(desk, 5, 1), "01234 01432 13204 13402 30214 30412");
        check.same("12: of one that is no member", Check.write(desk, "(24)").centraliser(1, 2), 6);
        check.same("12: of another one", Check.write(desk, "(01)").centraliser(1, 2), 2);
        int[][] slots = {{-1, 1}, {5, 1}, {0, 0}, {0, 5}, {0, -1}};
        for (int[] row : slots) {
            check.index("12: slots", () -> desk.centraliser(row[0], row[1]));
            check.index("12: wrong slots before a wrong text", () -> Check.write(desk, "").centraliser(row[0], row[1]));
        }
        check.argument("12: a wrong text", () -> Check.write(desk, "c").centraliser(0, 1));
        check.same("12: slot 1 as it was", desk.order(1), 6);
    }

    private static void closure() {
        PermutationDesk desk = Check.desk(4, "(0123)", "(01)");
        String[][] rows = {{"()", "1"}, {"(01)(23)", "4"}, {"(012)", "12"}, {"(12)", "24"}, {"(0123)", "24"}};
        for (String[] row : rows) {
            int due = Integer.parseInt(row[1]);
            check.same("13: of " + row[0], Check.write(desk, row[0]).closure(0, 1), due);
            check.same("13: of " + row[0] + " in the slot", desk.order(1), due);
        }
        Check.write(desk, "(01)(23)").closure(0, 1);
        check.text("13: of (01)(23)", Check.elements(desk, 4, 1), "0123 1032 2301 3210");
        check.same("13: under the identity alone", Check.write(desk, "(0123)").closure(4, 2), 4);
        check.same("13: under a group that lacks it", Check.write(desk, "(01)").closure(1, 3), 4);
        check.text("13: its elements", Check.elements(desk, 4, 3), "0123 0132 1023 1032");
        int[][] slots = {{-1, 1}, {5, 1}, {0, 0}, {0, 5}, {0, -1}};
        for (int[] row : slots) {
            check.index("13: slots", () -> desk.closure(row[0], row[1]));
            check.index("13: wrong slots before a wrong text", () -> Check.write(desk, "").closure(row[0], row[1]));
        }
        check.argument("13: a wrong text", () -> Check.write(desk, "c").closure(0, 1));
        check.same("13: slot 1 as it was", desk.order(1), 4);
    }

    private static void derived() {
        PermutationDesk desk = Check.desk(4, "(0123)", "(01)");
        int[] orders = {12, 4, 1, 1};
        for (int k = 0; k < 4; k++) {
            check.same("14: step " + k, desk.derived(k, k + 1), orders[k]);
            check.same("14: step " + k + " in the slot", desk.order(k + 1), orders[k]);
        }
        check.text("14: the second one", Check.elements(desk, 4, 2), "0123 1032 2301 3210");
        check.same("14: of S7", Check.desk(7, "(0123456)", "(01)").derived(0, 1), 2520);
        check.same("14: of A5", Check.desk(5, "(01234)", "(012)").derived(0, 1), 60);
        check.same("14: of the eight of a square", Check.desk(4, "(0123)", "(02)").derived(0, 1), 2);
        check.same("14: of no generators", Check.desk(4).derived(0, 1), 1);
        int[][] slots = {{-1, 1}, {5, 1}, {0, 0}, {0, 5}, {0, -1}, {Integer.MAX_VALUE, 1}};
        for (int[] row : slots) {
            check.index("14: slots " + row[0] + ", " + row[1], () -> desk.derived(row[0], row[1]));
        }
        check.same("14: slot 1 as it was", desk.order(1), 12);
    }

    private static void order() {
        String[][] rows = {{"(0123456)", "(01)", "5040"}, {"(0123456)", "(012)", "2520"}, {"(0123456)", "(12)(36)", "168"},
            {"(0123456)", "(124)(365)", "21"}, {"(0123456)", "(132645)", "42"}, {"(012345)", "(01)", "720"},
            {"(012)(345)", "(03)(14)(25)", "6"}, {"(0123)", "(456)", "12"}, {"(56)", "()", "2"}, {"()", "()", "1"},
            {"(23456)", "(23)", "120"}, {"(01)", "(56)", "4"}};
        for (String[] row : rows) {
            check.same("15: " + row[0] + ", " + row[1], Check.desk(7, row[0], row[1]).order(0), Integer.parseInt(row[2]));
        }
        PermutationDesk desk = Check.desk(4, "(0123)");
        for (int slot : new int[] {-1, 5, 8, Integer.MIN_VALUE, Integer.MAX_VALUE}) {
            check.index("15: slot " + slot, () -> desk.order(slot));
        }
        int size = 1;
        for (int degree = 1; degree <= 7; degree++) {
            size *= degree;
            PermutationDesk all = Check.desk(degree, "(0123456".substring(0, degree + 1) + ")", degree == 1 ? "()" : "(01)");
            check.same("15: all of degree " + degree, all.order(0), size);
        }
    }

    private static void rank() {
        PermutationDesk desk = Check.desk(4, "(0123)", "(02)");
        String[][] rows = {{"()", "0"}, {"(13)", "1"}, {"(01)(23)", "2"}, {"a", "3"}, {"(02)", "4"}, {"a^2", "5"},
            {"a'", "6"}, {"(03)(12)", "7"}, {"(01)", "-1"}, {"(012)", "-1"}, {"(12)", "-1"}, {"(0132)", "-1"}};
        for (String[] row : rows) {
            check.same("16: " + row[0], Check.write(desk, row[0]).rank(0), Integer.parseInt(row[1]));
        }
        check.same("16: in another slot", Check.write(desk, "a").rank(1), -1);
        check.same("16: the identity there", Check.write(desk, "()").rank(1), 0);
        for (int slot : new int[] {-1, 5, Integer.MAX_VALUE}) {
            check.index("16: slot " + slot, () -> Check.write(desk, "()").rank(slot));
            check.index("16: a wrong slot before a wrong text, " + slot, () -> Check.write(desk, "").rank(slot));
        }
        check.argument("16: a wrong text", () -> Check.write(desk, "c").rank(0));
        check.same("16: the last of S7", Check.write(Check.desk(7, "(0123456)", "(01)"), "(06)(15)(24)").rank(0), 5039);
    }

    private static void element() {
        PermutationDesk desk = Check.desk(4, "(0123)", "(02)");
        check.text("17: the eight of a square", Check.elements(desk, 4, 0),
            "0123 0321 1032 1230 2103 2301 3012 3210");
        int[][] wrong = {{-1, 0, 0}, {5, 0, 0}, {0, -1, 0}, {0, 8, 0}, {0, 0, -1}, {0, 0, 4}, {1, 1, 0},
            {0, Integer.MAX_VALUE, 0}, {0, Integer.MIN_VALUE, 0}, {0, 0, 16}, {0, 0, Integer.MIN_VALUE}};
        for (int[] row : wrong) {
            check.index("17: " + row[0] + ", " + row[1] + ", " + row[2], () -> desk.element(row[0], row[1], row[2]));
        }
        check.text("17: degree 3", Check.elements(Check.desk(3, "(012)", "(01)"), 3, 0), "012 021 102 120 201 210");
        PermutationDesk all = Check.desk(7, "(0123456)", "(01)");
        check.same("17: the last of S7", all.element(0, 5039, 0), 6);
        check.index("17: behind the last of S7", () -> all.element(0, 5040, 0));
    }

    private static void orbit() {
        PermutationDesk desk = Check.desk(7, "(01)(34)", "(12)(45)");
        int[] due = {7, 7, 7, 56, 56, 56, 64};
        for (int point = 0; point < 7; point++) {
            check.same("18: point " + point, desk.orbit(0, point), due[point]);
            check.same("18: under the identity, point " + point, desk.orbit(1, point), 1 << point);
        }
        desk.stabiliser(0, 1, false, 1);
        check.same("18: in another slot", desk.orbit(1, 1), 6);
        check.same("18: a fixed point there", desk.orbit(1, 0), 1);
        check.same("18: a long way round", Check.desk(7, "(65)", "(54)", "(43)", "(32)", "(21)", "(10)").orbit(0, 0), 127);
        int[][] wrong = {{-1, 0}, {5, 0}, {0, -1}, {0, 7}, {0, 32}, {5, 7}};
        for (int[] row : wrong) {
            check.index("18: " + row[0] + ", " + row[1], () -> desk.orbit(row[0], row[1]));
        }
    }

    private static void slotsThatTakeFromThemselves() {
        PermutationDesk desk = Check.desk(4, "(0123)", "(01)");
        Check.write(desk, "(01)").closure(0, 1);
        check.same("11: from 1 to 1", desk.stabiliser(1, 8, false, 1), 6);
        check.same("14: from 1 to 1", desk.derived(1, 1), 3);
        check.same("13: from 1 to 1", Check.write(desk, "(03)").closure(1, 1), 24);
        check.same("12: from 1 to 1", Check.write(desk, "(01)(23)").centraliser(1, 1), 8);
        check.text("12: what is there then", Check.elements(desk, 4, 1), "0123 0132 1023 1032 2301 2310 3201 3210");
        check.same("15: slot 0 as it was", desk.order(0), 24);
    }

    private static void exceptionsLeaveAllAsItWas() {
        PermutationDesk desk = Check.desk(4, "(0123)", "(02)");
        Check.write(desk, "(01)(23)").closure(0, 1);
        Check.images(desk, "(012)", "()");
        Check.write(desk, "a");
        check.state("kernel", () -> desk.kernel(1));
        check.index("images", () -> desk.images(0));
        check.argument("stabiliser", () -> desk.stabiliser(0, 16, true, 1));
        check.index("derived", () -> desk.derived(0, 0));
        check.index("image", () -> desk.image(2));
        check.index("value", () -> desk.value(4));
        check.same("the text is as it was", desk.value(3), 0);
        check.text("slot 0 is as it was", Check.elements(desk, 4, 0), "0123 0321 1032 1230 2103 2301 3012 3210");
        check.text("slot 1 is as it was", Check.elements(desk, 4, 1), "0123 1032 2301 3210");
        check.same("the images are as they were", desk.images(2), 3);
    }
}
