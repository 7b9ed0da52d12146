/** What the tests share: answers against what is due, and moors told as texts. */
final class Due {
    private static final int MOST_TOLD = 20;
    private final String name;
    private int wrong = 0;
    private int asked = 0;

    Due(String name) {
        this.name = name;
    }

    void is(String call, long got, long want) {
        asked++;
        if (got != want) {
            wrong++;
        }
        if (got != want && wrong <= MOST_TOLD) {
            System.out.println(name + ": " + call + " answered " + got + ", due is " + want);
        }
    }

    void holds(String what, boolean so) {
        is(what, so ? 1 : 0, 1);
    }

    void end() {
        System.out.println(name + ": " + asked + " answers, " + wrong + " wrong");
        if (wrong != 0) {
            System.exit(1);
        }
    }

    /** Feeds all letters of a text and answers what moor() says. */
    static int tell(SeenADayLate x, String text) {
        for (int i = 0; i < text.length(); i++) {
            x.feed(text.charAt(i));
        }
        return x.moor();
    }

    /** A new object with a told moor. */
    static SeenADayLate on(String text) {
        SeenADayLate x = new SeenADayLate();
        int answer = tell(x, text);
        if (answer <= 0) {
            throw new IllegalStateException("the test's own moor has a fault: " + text + " " + answer);
        }
        return x;
    }

    static void days(SeenADayLate x, int n) {
        for (int i = 0; i < n; i++) {
            x.day();
        }
    }

    static int bits(int... cells) {
        int set = 0;
        for (int cell : cells) {
            set |= 1 << cell;
        }
        return set;
    }
}
