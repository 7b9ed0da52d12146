import java.util.Random;

/** Many runs of calls, ordinary and wrong ones mixed, answered by the class as by the Model. */
public final class RandomRunsTest {
    private static final Due DUE = new Due("RandomRunsTest");
    private static final int RUNS = Integer.getInteger("runs", 500);
    private static final int CALLS = 400;

    private final Random dice;
    private final SeenADayLate x = new SeenADayLate();
    private final Model m = new Model();
    private final int run;
    private int calls = 0;

    private RandomRunsTest(int run) {
        this.run = run;
        dice = new Random(run);
    }

    public static void main(String[] args) {
        for (int run = 0; run < RUNS; run++) {
            new RandomRunsTest(run).go();
        }
        DUE.end();
    }

    private void go() {
        while (calls < CALLS) {
            if (calls == 0 || dice.nextInt(30) == 0) {
                tell(text());
            } else {
                any();
            }
        }
        for (int what = -1; what <= 17; what++) {
            same("count", x.count(what), m.count(what), what);
        }
    }

    private void same(String call, int got, int want, int... args) {
        calls++;
        DUE.is("run " + run + " call " + calls + " " + call + java.util.Arrays.toString(args), got, want);
    }

    private void tell(String text) {
        for (int i = 0; i < text.length(); i++) {
            same("feed", x.feed(text.charAt(i)), m.feed(text.charAt(i)), text.charAt(i));
        }
        if (dice.nextInt(12) != 0) {
            same("moor of " + text, x.moor(), m.moor());
        }
    }

    private String text() {
        StringBuilder t = new StringBuilder();
        if (calls == 0 || dice.nextInt(3) == 0) {
            t.append(ground());
        }
        int many = 1 + dice.nextInt(4);
        for (int i = 0; i < many; i++) {
            t.append(dice.nextInt(5) == 0 ? "d" + dice.nextInt(dice.nextInt(4) == 0 ? 10 : 4) + ";" : someone());
        }
        int spoiled = dice.nextInt(8);
        if (spoiled == 0) {
            t.setCharAt(dice.nextInt(t.length()), "m./#pd;0123456789nesw- x".charAt(dice.nextInt(24)));
        } else if (spoiled == 1) {
            t.deleteCharAt(dice.nextInt(t.length()));
        } else if (spoiled == 2) {
            t.insert(dice.nextInt(t.length()), "m./#pd;0123456789nesw- x".charAt(dice.nextInt(24)));
        } else if (spoiled == 3) {
            t.setLength(dice.nextInt(t.length()));
        }
        return t.toString();
    }

    private String ground() {
        int rows = 2 + dice.nextInt(4);
        int cols = 2 + dice.nextInt(5);
        int hilly = dice.nextInt(60);
        StringBuilder t = new StringBuilder("m");
        for (int r = 0; r < rows; r++) {
            t.append(r == 0 ? "" : "/");
            for (int c = 0; c < cols; c++) {
                t.append(dice.nextInt(100) < hilly ? '#' : '.');
            }
        }
        return t.append(';').toString();
    }

    private String someone() {
        StringBuilder t = new StringBuilder("p");
        t.append(dice.nextInt(15) == 0 ? dice.nextInt(10) : dice.nextInt(6)).append(dice.nextInt(10));
        int cells = m.count(0) * m.count(1);
        t.append(dice.nextInt(10) == 0 ? dice.nextInt(100) : dice.nextInt(cells));
        int steps = dice.nextInt(7);
        for (int i = 0; i < steps; i++) {
            t.append("nesw-".charAt(dice.nextInt(5)));
        }
        return t.append(';').toString();
    }

    /** A number from least to greatest, now and then one outside or far off. */
    private int number(int least, int greatest) {
        int kind = dice.nextInt(40);
        if (kind == 0) {
            return least - 1;
        }
        if (kind == 1) {
            return greatest + 1;
        }
        if (kind == 2) {
            return dice.nextInt();
        }
        if (kind == 3) {
            return greatest;
        }
        return least + dice.nextInt(Math.max(1, greatest - least + 1));
    }

    private int cell() {
        return number(0, m.count(0) * m.count(1) - 1);
    }

    private int someoneHere() {
        return number(0, m.count(2) - 1);
    }

    private int what() {
        return number(0, 1);
    }

    private void any() {
        switch (dice.nextInt(5)) {
            case 0: lives(); break;
            case 1: looksAhead(); break;
            case 2: goesOver(); break;
            case 3: plays(); break;
            default: keeps(); break;
        }
    }

    private void lives() {
        int a = someoneHere();
        int b = someoneHere();
        int n = number(0, m.count(4));
        int v = number(0, 3);
        int w = number(0, 4);
        switch (dice.nextInt(6)) {
            case 0: same("person", x.person(a, w), m.person(a, w), a, w); break;
            case 1: same("delay", x.delay(v), m.delay(v), v); break;
            case 2: same("was", x.was(a, n), m.was(a, n), a, n); break;
            case 3: same("sees", x.sees(a, b), m.sees(a, b), a, b); break;
            default:
                for (int i = dice.nextInt(4); i >= 0; i--) {
                    same("day", x.day(), m.day());
                }
                break;
        }
    }

    private void looksAhead() {
        int a = someoneHere();
        int b = someoneHere();
        int n = number(0, 60);
        int w = what();
        switch (dice.nextInt(5)) {
            case 0: same("behind", x.behind(a, n), m.behind(a, n), a, n); break;
            case 1: same("meet", x.meet(a, b, w), m.meet(a, b, w), a, b, w); break;
            case 2: same("never", x.never(a, n), m.never(a, n), a, n); break;
            case 3: same("crowd", x.crowd(n, w), m.crowd(n, w), n, w); break;
            default: same("can", x.can(a, b), m.can(a, b), a, b); break;
        }
    }

    private void goesOver() {
        int a = cell();
        int b = cell();
        int n = number(0, 10);
        int far = number(0, 30);
        int k = number(0, dice.nextInt(11));
        switch (dice.nextInt(6)) {
            case 0: same("reach", x.reach(a, far), m.reach(a, far), a, far); break;
            case 1: same("ways", x.ways(a, b, n), m.ways(a, b, n), a, b, n); break;
            case 2: same("sight", x.sight(n, a), m.sight(n, a), n, a); break;
            case 3: same("fits", x.fits(a), m.fits(a), a); break;
            case 4: same("guess", x.guess(a, k), m.guess(a, k), a, k); break;
            default:
                if (dice.nextInt(3) == 0) {
                    same("forget", x.forget(), m.forget());
                }
                break;
        }
    }

    private void plays() {
        int a = cell();
        int b = cell();
        int w = what();
        int r = number(1, 5);
        int n = number(1, 60);
        int z = dice.nextInt();
        switch (dice.nextInt(6)) {
            case 0:
            case 1: same("game", x.game(a, b, w), m.game(a, b, w), a, b, w); break;
            case 2:
                if (dice.nextInt(4) == 0) {
                    same("watchers", x.watchers(r, w), m.watchers(r, w), r, w);
                }
                break;
            default: same("seeds", x.seeds(a, n, z, w), m.seeds(a, n, z, w), a, n, z, w); break;
        }
    }

    private void keeps() {
        int a = someoneHere();
        int what = number(0, 16);
        switch (dice.nextInt(8)) {
            case 0: same("image", x.image(), m.image()); break;
            case 1: same("restore", x.restore(), m.restore()); break;
            case 2: same("judge", x.judge(a), m.judge(a), a); break;
            case 3: tellsRow(); break;
            case 4: same("count", x.count(what), m.count(what), what); break;
            default:
                int letter = dice.nextInt(4) == 0 ? number(0, 255) : 'd';
                if (dice.nextInt(8) == 0) {
                    same("feed", x.feed(letter), m.feed(letter), letter);
                }
                break;
        }
    }

    /** Mostly what will be, so that judging comes further than the first cell. */
    private void tellsRow() {
        int a = dice.nextInt(Math.max(1, m.count(2)));
        for (int i = dice.nextInt(14); i > 0; i--) {
            int n = m.count(8);
            int due = m.behind(a, n);
            same("behind", x.behind(a, n), due, a, n);
            int cell = dice.nextInt(12) == 0 ? number(0, 29) : Math.max(0, due);
            same("row", x.row(cell), m.row(cell), cell);
        }
    }
}
