/** Promises 20, 21, 24, 25 and 26: the game by turns, watchers, seeds, the image. */
public final class GamesTest {
    private static final Due DUE = new Due("GamesTest");

    public static void main(String[] args) {
        games();
        watching();
        seeds();
        images();
        imageOfTheLastDay();
        DUE.end();
    }

    private static void games() {
        SeenADayLate ring = Due.on("m../..;");
        DUE.is("round a ring", ring.game(0, 3, 0), -9);
        DUE.is("no first step", ring.game(0, 3, 1), -9);
        DUE.is("beside it", ring.game(0, 2, 0), 1);
        DUE.is("onto it", ring.game(0, 2, 1), 2);
        DUE.is("caught already", ring.game(3, 3, 0), 0);
        DUE.is("caught already, no step", ring.game(3, 3, 1), -9);
        DUE.is("no hunter's cell", ring.game(4, 0, 5), -1);
        DUE.is("no hare's cell", ring.game(0, -1, 0), -1);
        DUE.is("other", ring.game(0, 0, 2), -2);
        DUE.is("other below", ring.game(0, 3, -1), -2);
        SeenADayLate lane = Due.on("m..../####;");
        DUE.is("down the lane", lane.game(0, 3, 0), 3);
        DUE.is("first", lane.game(0, 3, 1), 1);
        DUE.is("it flees", lane.game(0, 2, 0), 3);
        DUE.is("up the lane", lane.game(3, 1, 0), 3);
        DUE.is("to the west", lane.game(3, 1, 1), 3);
        DUE.is("a hill", lane.game(0, 4, 0), -1);
        SeenADayLate apart = Due.on("m.#./.#.;");
        DUE.is("apart", apart.game(0, 2, 0), -9);
        DUE.is("apart, no step", apart.game(0, 2, 1), -9);
        SeenADayLate tree = Due.on("m#.#/.../#.#;");
        DUE.is("in a star", tree.game(1, 7, 0), 2);
        DUE.is("to the middle", tree.game(1, 7, 1), 2);
        DUE.is("from the middle", tree.game(4, 3, 0), 1);
        DUE.is("on a bare moor", Due.on("m....../....../....../....../......;").game(0, 29, 0), -9);
    }

    private static void watching() {
        SeenADayLate two = Due.on("m....../......;");
        DUE.is("one in each row", two.watchers(5, 0), 2);
        DUE.is("the first such", two.watchers(5, 1), Due.bits(0, 6));
        DUE.is("near ones", two.watchers(1, 0), 4);
        DUE.is("below ahead of other", two.watchers(0, 2), -4);
        DUE.is("above ahead of other", two.watchers(6, 2), -6);
        DUE.is("other", two.watchers(5, 2), -2);
        DUE.is("other below", two.watchers(1, -1), -2);
        SeenADayLate bare = Due.on("m....../....../....../....../......;");
        DUE.is("five would do", bare.watchers(5, 0), -9);
        DUE.is("five would do, the set", bare.watchers(5, 1), -9);
        SeenADayLate holes = Due.on("m.#/#.;");
        DUE.is("two holes", holes.watchers(5, 0), 2);
        DUE.is("two holes, the set", holes.watchers(5, 1), Due.bits(0, 3));
        DUE.is("five holes", Due.on("m.#./#.#/.#.;").watchers(5, 0), -9);
        SeenADayLate wall = Due.on("m..#.../######;");
        DUE.is("no look over hills", wall.watchers(5, 0), 2);
        DUE.is("no look over hills, the set", wall.watchers(5, 1), Due.bits(0, 3));
        DUE.is("no look over hills, near", wall.watchers(1, 1), Due.bits(0, 4));
        SeenADayLate hills = Due.on("m##/##;");
        DUE.is("nothing to look at", hills.watchers(1, 0), -9);
        DUE.is("nothing to look at, the set", hills.watchers(1, 1), -9);
        DUE.is("in one cell", Due.on("m#./##;").watchers(3, 1), 2);
        DUE.is("by ones near", new SeenADayLate().watchers(1, 1), Due.bits(0, 2, 7));
    }

    private static void seeds() {
        SeenADayLate x = Due.on("m..#/.#./...;");
        // Seed 0 becomes 12345, whose upper half is 0: the first step that may be made.
        DUE.is("first that may be", x.seeds(0, 1, 0, 0), 1);
        DUE.is("two cells", x.seeds(0, 1, 0, 1), 2);
        // Seed 1 becomes 1103527590, of which 65536 goes 16838 times: 16838 modulo 3 is 2.
        DUE.is("stay", x.seeds(0, 1, 1, 0), 0);
        DUE.is("one cell", x.seeds(0, 1, 1, 1), 1);
        // Seed -1 becomes -1103502900, without its sign's bit 1043980748: 15929 times, modulo 3 is 2.
        DUE.is("below nought", x.seeds(0, 1, -1, 0), 0);
        DUE.is("a hill", x.seeds(2, 1, 0, 0), -1);
        DUE.is("no cell ahead of below", x.seeds(9, 0, 0, 0), -1);
        DUE.is("below", x.seeds(0, 0, 0, 2), -4);
        DUE.is("above", x.seeds(0, 61, 0, 2), -6);
        DUE.is("other", x.seeds(0, 60, 0, 2), -2);
        DUE.is("shut in", Due.on("m.#/##;").seeds(0, 60, 77, 0), 0);
        DUE.is("shut in, one cell", Due.on("m.#/##;").seeds(0, 60, 77, 1), 1);
        SeenADayLate bare = new SeenADayLate();
        DUE.is("nine steps", bare.seeds(4, 9, 5, 0), 2);
        DUE.is("five cells", bare.seeds(4, 9, 5, 1), 5);
    }

    private static void images() {
        SeenADayLate x = Due.on("m....../......;p000eeeeee;p1011;d2;");
        DUE.is("none", x.restore(), -3);
        DUE.is("refused", x.count(13), 1);
        Due.days(x, 3);
        x.feed('m');
        x.row(1);
        x.sight(1, 1);
        DUE.is("taken", x.image(), 3);
        Due.days(x, 4);
        x.row(2);
        x.sight(2, 2);
        x.delay(0);
        DUE.is("the letter is still there", Due.tell(x, "##/#.;p203;"), 2);
        x.feed('q');
        x.person(9, 0);
        DUE.is("restored", x.restore(), 3);
        int[] want = {2, 6, 2, 0, 3, 2, 2, 1, 2, -9, -9, 1, 0, 1, 0, 0, 0};
        for (int i = 0; i < want.length; i++) {
            DUE.is("count(" + i + ") restored", x.count(i), want[i]);
        }
        for (int day = 0; day <= 3; day++) {
            DUE.is("was restored", x.was(0, day), day);
        }
        DUE.is("kind restored", x.person(1, 0), 1);
        DUE.is("hunter restored", x.person(1, 2), 3);
        DUE.is("plan restored", x.person(0, 3), 6);
        Due.days(x, 2);
        DUE.is("restored once more", x.restore(), 3);
        DUE.is("cell once more", x.person(0, 2), 3);
        x.day();
        DUE.is("taken anew", x.image(), 4);
        x.day();
        DUE.is("restored anew", x.restore(), 4);
    }

    private static void imageOfTheLastDay() {
        SeenADayLate x = Due.on("m../..;p000ew;p302;p501;d3;");
        Due.days(x, 60);
        DUE.is("taken on the last day", x.image(), 60);
        Due.tell(x, "m##/.#;p002;");
        Due.days(x, 60);
        DUE.is("restored", x.restore(), 60);
        for (int day = 0; day <= 60; day++) {
            DUE.is("was on day " + day, x.was(0, day), day % 2);
        }
        DUE.is("no day more", x.day(), -6);
        DUE.is("sees", x.sees(1, 0), 1);
    }
}
