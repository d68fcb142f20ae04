/** Counts what was looked at and what was wrong, and makes desks for the tests. */
final class Check {
    private static final int SHOWN = 40;

    private final String name;
    private String sentence = "";
    private int sentences;
    private int looksBefore;
    private int looks;
    private int wrong;

    Check(String name) {
        this.name = name;
    }

    /** A call whose answer, or whose exception, two desks may be compared by. */
    interface Call {
        Object on(PermutationDesk desk);
    }

    /** What follows, up to the next sentence, looks at this one of the document. */
    void sentence(String words) {
        endSentence();
        sentence = words;
        sentences++;
    }

    private void endSentence() {
        if (sentences > 0 && looks == looksBefore) {
            tell("nothing looks at this sentence");
        }
        looksBefore = looks;
    }

    void same(String what, long got, long want) {
        looks++;
        if (got != want) {
            tell(what + " answered " + got + ", due is " + want);
        }
    }

    void yes(String what, boolean holds) {
        same(what, holds ? 1 : 0, 1);
    }

    void no(String what, boolean holds) {
        same(what, holds ? 1 : 0, 0);
    }

    /** The very class is asked for, so that a subclass thrown by the language itself does not pass. */
    void fails(String what, Class<? extends RuntimeException> kind, Runnable call) {
        looks++;
        String got = "nothing";
        try {
            call.run();
        } catch (RuntimeException e) {
            got = e.getClass().getName();
        }
        if (!got.equals(kind.getName())) {
            tell(what + " threw " + got + ", due is " + kind.getName());
        }
    }

    void state(String what, Runnable call) {
        fails(what, IllegalStateException.class, call);
    }

    void argument(String what, Runnable call) {
        fails(what, IllegalArgumentException.class, call);
    }

    void index(String what, Runnable call) {
        fails(what, IndexOutOfBoundsException.class, call);
    }

    /** What a call answers, or the name of what it throws. */
    static String answer(PermutationDesk desk, Call call) {
        try {
            return "" + call.on(desk);
        } catch (RuntimeException e) {
            return e.getClass().getSimpleName();
        }
    }

    boolean isRight() {
        return wrong == 0;
    }

    void end() {
        endSentence();
        String of = sentences == 0 ? "" : " for " + sentences + " sentences";
        System.out.println(name + ": " + looks + " looked at" + of + ", " + wrong + " wrong");
        if (wrong != 0 || looks == 0) {
            System.exit(1);
        }
    }

    private void tell(String what) {
        wrong++;
        if (wrong <= SHOWN) {
            System.out.println(name + ": " + what + (sentence.isEmpty() ? "" : "; the document: " + sentence));
        }
    }

    /** A new desk of a degree 1 to 7 with generators. */
    static PermutationDesk desk(int degree, String... generators) {
        PermutationDesk desk = new PermutationDesk(degree - 1);
        for (String generator : generators) {
            write(desk, generator);
            desk.generate();
        }
        return desk;
    }

    static PermutationDesk write(PermutationDesk desk, String text) {
        desk.wipe();
        for (char c : text.toCharArray()) {
            desk.type(c);
        }
        return desk;
    }

    static void images(PermutationDesk desk, String... texts) {
        for (int k = 0; k < texts.length; k++) {
            write(desk, texts[k]).image(k);
        }
    }

    /** Where a text's element takes the points, as digits. */
    static String values(PermutationDesk desk, int degree, String text) {
        write(desk, text);
        StringBuilder digits = new StringBuilder();
        for (int p = 0; p < degree; p++) {
            digits.append(desk.value(p));
        }
        return digits.toString();
    }

    /** All elements of a slot in their order, as digits, with blanks between them. */
    static String elements(PermutationDesk desk, int degree, int slot) {
        StringBuilder all = new StringBuilder();
        for (int rank = 0; rank < desk.order(slot); rank++) {
            all.append(rank == 0 ? "" : " ");
            for (int p = 0; p < degree; p++) {
                all.append(desk.element(slot, rank, p));
            }
        }
        return all.toString();
    }

    void text(String what, String got, String want) {
        looks++;
        if (!got.equals(want)) {
            tell(what + " answered " + got + ", due is " + want);
        }
    }
}
