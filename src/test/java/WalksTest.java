/** Promises 13 to 19: where one can come, in how many ways, sights and guesses. */
public final class WalksTest {
    private static final Due DUE = new Due("WalksTest");

    public static void main(String[] args) {
        reaches();
        cans();
        ways();
        sights();
        fitting();
        guesses();
        DUE.end();
    }

    private static void reaches() {
        SeenADayLate x = Due.on("m..#.../#.###./......;");
        DUE.is("no step", x.reach(0, 0), 1);
        DUE.is("one step", x.reach(0, 1), Due.bits(0, 1));
        DUE.is("around the hill", x.reach(0, 4), Due.bits(0, 1, 7, 13, 12, 14));
        DUE.is("all", x.reach(0, 30), Due.bits(0, 1, 3, 4, 5, 7, 11, 12, 13, 14, 15, 16, 17));
        DUE.is("a hill", x.reach(2, 1), -1);
        DUE.is("no cell", x.reach(18, -1), -1);
        DUE.is("no cell below", x.reach(-1, 1), -1);
        DUE.is("below", x.reach(0, -1), -4);
        DUE.is("above", x.reach(0, 31), -6);
        DUE.is("apart", Due.on("m.#./.#.;").reach(0, 30), Due.bits(0, 3));
        DUE.is("thirty cells", Due.on("m....../....../....../....../......;").reach(29, 30), (1 << 30) - 1);
    }

    private static void cans() {
        SeenADayLate x = Due.on("m....../......;p000eeeeee;p4011;");
        DUE.is("one step from where he came", x.can(1, 0), Due.bits(0, 1, 6));
        Due.days(x, 3);
        DUE.is("from where he is seen", x.can(1, 0), Due.bits(1, 2, 3, 8));
        x.delay(0);
        DUE.is("he is there", x.can(1, 0), Due.bits(3));
        x.delay(2);
        DUE.is("two steps", x.can(1, 0), Due.bits(0, 1, 2, 3, 6, 7, 8));
        DUE.is("as the other knows", x.can(0, 1), Due.bits(5, 9, 10, 11, 4));
        DUE.is("himself", x.can(0, 0), -1);
        DUE.is("nobody", x.can(0, 2), -1);
        DUE.is("nobody knows", x.can(2, 0), -1);
    }

    private static void ways() {
        SeenADayLate x = Due.on("m.../.#./...;");
        DUE.is("no step", x.ways(0, 0, 0), 1);
        DUE.is("no step elsewhere", x.ways(0, 1, 0), 0);
        DUE.is("stay counts", x.ways(0, 0, 1), 1);
        DUE.is("back", x.ways(0, 0, 2), 3);
        DUE.is("round the hill", x.ways(0, 8, 4), 2);
        DUE.is("a hill", x.ways(4, 0, 1), -1);
        DUE.is("to a hill", x.ways(0, 4, -1), -1);
        DUE.is("no cell", x.ways(0, 9, 11), -1);
        DUE.is("below", x.ways(0, 8, -1), -4);
        DUE.is("above", x.ways(0, 8, 11), -6);
        SeenADayLate cycle = Due.on("m../..;");
        int sum = 0;
        for (int to = 0; to < 4; to++) {
            sum += cycle.ways(0, to, 10);
        }
        DUE.is("three steps each, ten times", sum, 59049);
    }

    private static void sights() {
        SeenADayLate x = Due.on("m.#/..;");
        DUE.is("first", x.sight(0, 0), 1);
        DUE.is("ten steps", x.sight(10, 3), 2);
        DUE.is("below ahead of nobody", x.sight(-1, 1), -4);
        DUE.is("a hill ahead of room", x.sight(11, 1), -1);
        DUE.is("no cell", x.sight(1, 4), -1);
        DUE.is("no cell below", x.sight(1, -1), -1);
        DUE.is("too many steps", x.sight(11, 0), -6);
        for (int i = 3; i <= 6; i++) {
            DUE.is("one more", x.sight(10, 3), i);
        }
        DUE.is("no room", x.sight(1, 0), -6);
        DUE.is("a hill and no room", x.sight(1, 1), -1);
        DUE.is("counted", x.count(6), 6);
        DUE.is("forget", x.forget(), 6);
        DUE.is("forget again", x.forget(), 0);
        DUE.is("one again", x.sight(1, 0), 1);
    }

    private static void fitting() {
        SeenADayLate x = new SeenADayLate();
        DUE.is("without sights", x.fits(4), 1);
        DUE.is("no cell", x.fits(9), -1);
        DUE.is("no cell below", x.fits(-1), -1);
        x.sight(4, 8);
        DUE.is("as ways", x.fits(0), 6);
        x.sight(2, 4);
        DUE.is("through the middle", x.fits(0), 4);
        x.sight(0, 0);
        DUE.is("from there", x.fits(0), 4);
        DUE.is("from elsewhere", x.fits(1), 0);
        x.sight(2, 2);
        DUE.is("at two places at once", x.fits(0), 0);
        x.forget();
        x.sight(0, 0);
        DUE.is("now alone", x.fits(0), 1);
        DUE.is("not here", x.fits(8), 0);
        Due.tell(x, "m#./..;");
        DUE.is("a hill", x.fits(0), -1);
    }

    private static void guesses() {
        SeenADayLate x = new SeenADayLate();
        DUE.is("without sights", x.guess(5, 0), 5);
        DUE.is("above without sights", x.guess(5, 1), -6);
        x.sight(4, 8);
        DUE.is("at first", x.guess(0, 0), 0);
        DUE.is("of several the least", x.guess(0, 1), 1);
        DUE.is("mostly through the middle", x.guess(0, 2), 4);
        DUE.is("at last", x.guess(0, 4), 8);
        DUE.is("no cell ahead of below", x.guess(9, -1), -1);
        DUE.is("below", x.guess(0, -1), -4);
        DUE.is("above", x.guess(0, 5), -6);
        x.sight(1, 3);
        DUE.is("by both sights", x.guess(0, 1), 3);
        DUE.is("behind both", x.guess(0, 3), 7);
        x.sight(1, 8);
        DUE.is("there is no way", x.guess(0, 2), -9);
    }
}
