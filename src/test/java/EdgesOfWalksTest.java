import java.math.BigInteger;

/** Edges of promises 13 to 21 and 24: ways over the moor, sights, the game, watchers, seeds. */
public final class EdgesOfWalksTest {
    private static final Due DUE = new Due("EdgesOfWalksTest");
    private static final String WIDE = "m....../....../....../....../......;";

    public static void main(String[] args) {
        reach();
        can();
        ways();
        sight();
        sightsAtMost();
        fits();
        guess();
        forget();
        game();
        first();
        watchers();
        watchersAtMost();
        seeds();
        draws();
        DUE.end();
    }

    private static Run says(String sentence) {
        return new Run(DUE, sentence);
    }

    private static void reach() {
        says("Promise 13: n 0 .. 30").goes("reach(4, 0) = {4}", "reach(4, 1) = {1 3 4 5 7}", "reach(0, 3) = {0 1 2 3 4 5 6 7}",
                "reach(0, 4) = {0 1 2 3 4 5 6 7 8}", "reach(0, 30) = {0 1 2 3 4 5 6 7 8}", "reach(0, 31) = -6",
                "reach(0, -1) = -4", "reach(0, MAX) = -6", "reach(0, MIN) = -4", "count(14) = 2", "count(16) = 2");
        says("Promise 13: a long way round").goes("tell(m....../#####./....../.#####/......;) = 1",
                "reach(0, 18) = {0 1 2 3 4 5 11 12 13 14 15 16 17 18 24 25 26 27 28}",
                "reach(0, 19) = {0 1 2 3 4 5 11 12 13 14 15 16 17 18 24 25 26 27 28 29}",
                "reach(0, 30) = {0 1 2 3 4 5 11 12 13 14 15 16 17 18 24 25 26 27 28 29}");
        says("Promise 13: -1, no such CELL").goes("reach(8, 0) = {8}", "reach(9, 0) = -1", "reach(-1, 0) = -1",
                "reach(MAX, 0) = -1", "reach(MIN, 0) = -1", "count(11) = 4");
        says("Promise 13: -1, no FREE one").goes("tell(m.#/..;) = 1", "reach(0, 30) = {0 2 3}", "reach(1, 0) = -1",
                "tell(m##/##;) = 1", "reach(0, 0) = -1", "reach(3, 0) = -1");
        says("Promise 13: -1 ahead of -4 and of -6").goes("reach(9, -1) = -1", "reach(9, 31) = -1", "reach(-1, -1) = -1",
                "tell(m.#/..;) = 1", "reach(1, -1) = -1", "reach(1, 31) = -1", "count(11) = 5", "count(14) = 0");
    }

    private static void can() {
        says("Promise 14: REACH in DELAY STEPS").goes("tell(p000;p408;d0;) = 3", "can(1, 0) = {0}", "delay(1) = 0",
                "can(1, 0) = {0 1 3}", "delay(2) = 1", "can(1, 0) = {0 1 2 3 4 6}", "delay(3) = 2",
                "can(1, 0) = {0 1 2 3 4 5 6 7}", "can(0, 1) = {1 2 3 4 5 6 7 8}");
        says("Promise 14: of that CELL where it is seen").goes("tell(m....../......;p000e;p4011;d3;) = 4", "can(1, 0) = {0 1 2 3 6 7 8}",
                "days(3) = 1", "can(1, 0) = {0 1 2 3 6 7 8}", "day() = 1", "can(1, 0) = {0 1 2 3 4 6 7 8 9}", "delay(0) = 3",
                "can(1, 0) = {4}");
        says("Promise 14: -1 two").goes("can(0, 1) = -1", "tell(p000;) = 1", "can(0, 0) = -1", "can(0, 1) = -1", "can(1, 0) = -1",
                "tell(p008;) = 1", "can(1, 1) = -1", "can(-1, 0) = -1", "can(0, -1) = -1", "can(2, 0) = -1", "can(0, 2) = -1",
                "can(MAX, MIN) = -1", "count(11) = 10", "can(0, 1) = {5 7 8}");
    }

    private static void ways() {
        says("Promise 15: n 0 .. 10").goes("ways(0, 0, 0) = 1", "ways(0, 1, 0) = 0", "ways(0, 0, 1) = 1", "ways(0, 1, 1) = 1",
                "ways(0, 8, 3) = 0", "ways(0, 8, 4) = 6", "ways(0, 0, -1) = -4", "ways(0, 0, 11) = -6", "ways(0, 0, MAX) = -6",
                "ways(0, 0, MIN) = -4", "count(14) = 2", "count(16) = 2");
        // Round four cells in ten steps, stay among them: (3^10 + 2 + (-1)^10) / 4 of 3^10 end where they began.
        says("Promise 15: in just ten STEPS").goes("tell(m../..;) = 1", "ways(0, 0, 10) = 14763", "ways(0, 1, 10) = 14762",
                "ways(0, 2, 10) = 14762", "ways(0, 3, 10) = 14762");
        says("Promise 15: on the widest MOOR").goes("tell(" + WIDE + ") = 1", "ways(0, 29, 9) = 126", "ways(0, 29, 8) = 0",
                "ways(29, 0, 9) = 126");
        says("Promise 15: stay counts").goes("tell(m.#/#.;) = 1", "ways(0, 0, 0) = 1", "ways(0, 0, 10) = 1", "ways(0, 3, 10) = 0");
        says("Promise 15: -1 either").goes("ways(9, 0, 1) = -1", "ways(0, 9, 1) = -1", "ways(-1, 0, 1) = -1", "ways(0, -1, 1) = -1",
                "ways(9, 9, 1) = -1", "ways(8, 8, 0) = 1", "tell(m.#/..;) = 1", "ways(1, 0, 1) = -1", "ways(0, 1, 1) = -1",
                "count(11) = 7");
        says("Promise 15: -1 ahead of -4 and of -6").goes("ways(9, 0, -1) = -1", "ways(0, 9, -1) = -1", "ways(9, 0, 11) = -1",
                "ways(0, 9, 11) = -1", "ways(9, 9, 11) = -1", "count(11) = 5", "count(14) = 0", "count(16) = 0");
    }

    private static void sight() {
        says("Promise 16: -4 steps").goes("sight(0, 0) = 1", "sight(-1, 0) = -4", "sight(MIN, 0) = -4", "count(6) = 1",
                "count(14) = 2");
        says("Promise 16: -6 10").goes("sight(10, 0) = 1", "sight(11, 0) = -6", "sight(MAX, 0) = -6", "count(6) = 1",
                "count(16) = 2");
        says("Promise 16: -1 the CELL is not FREE").goes("sight(0, 8) = 1", "sight(0, 9) = -1", "sight(0, -1) = -1",
                "sight(0, MAX) = -1", "sight(0, MIN) = -1", "tell(m.#/..;) = 1", "sight(0, 1) = -1", "sight(0, 3) = 2",
                "sight(0, 4) = -1", "count(6) = 2", "count(11) = 6");
        says("Promise 16: -4 ahead of -1").goes("sight(-1, 9) = -4", "sight(-1, -1) = -4", "count(14) = 2", "count(11) = 0");
        says("Promise 16: -1 ahead of -6").goes("sight(11, 9) = -1", "sight(MAX, -1) = -1", "count(11) = 2", "count(16) = 0");
    }

    private static void sightsAtMost() {
        Run full = says("Promise 16: 6, too");
        for (int i = 1; i <= 6; i++) {
            full.goes("sight(10, 8) = " + i);
        }
        full.goes("sight(10, 8) = -6", "sight(0, 0) = -6", "sight(11, 0) = -6", "count(6) = 6", "count(16) = 3",
                "sight(-1, 0) = -4", "sight(-1, 9) = -4", "sight(0, 9) = -1", "sight(11, 9) = -1", "count(6) = 6",
                "count(14) = 2", "count(11) = 2", "forget() = 6", "sight(11, 0) = -6", "sight(10, 0) = 1");
        says("Promise 16: all six are looked at").goes("sight(1, 1) = 1", "sight(2, 2) = 2", "sight(3, 5) = 3", "sight(4, 8) = 4",
                "sight(5, 7) = 5", "fits(0) = 1", "sight(6, 6) = 6", "fits(0) = 1", "guess(0, 6) = 6", "guess(0, 5) = 7");
    }

    private static void fits() {
        says("Promise 17: no SIGHTS: 1").goes("fits(0) = 1", "fits(8) = 1", "sight(10, 0) = 1", "forget() = 1", "fits(0) = 1",
                "tell(m.#/##;) = 1", "fits(0) = 1");
        says("Promise 17: a SIGHT behind 0 STEPS").goes("sight(0, 4) = 1", "fits(4) = 1", "fits(0) = 0");
        says("Promise 17: a SIGHT behind 10 STEPS").goes("tell(m../..;) = 1", "sight(10, 0) = 1", "fits(0) = 14763",
                "fits(3) = 14762");
        says("Promise 17: each of them").goes("sight(4, 8) = 1", "fits(0) = 6", "sight(2, 4) = 2", "fits(0) = 4",
                "sight(2, 4) = 3", "fits(0) = 4", "sight(2, 2) = 4", "fits(0) = 0");
        says("Promise 17: up to the latest, whichever came last").goes("sight(4, 8) = 1", "sight(1, 1) = 2", "fits(0) = 3",
                "sight(0, 0) = 3", "fits(0) = 3", "fits(1) = 0");
        says("Promise 17: -1").goes("fits(8) = 1", "fits(9) = -1", "fits(-1) = -1", "fits(MAX) = -1", "fits(MIN) = -1",
                "tell(m.#/..;) = 1", "fits(1) = -1", "fits(4) = -1", "count(11) = 6");
    }

    private static void guess() {
        says("Promise 18: 0 without SIGHTS").goes("guess(5, 0) = 5", "guess(5, 1) = -6", "guess(5, -1) = -4");
        says("Promise 18: k above the latest").goes("sight(4, 8) = 1", "sight(1, 1) = 2", "guess(0, 0) = 0", "guess(0, 1) = 1",
                "guess(0, 4) = 8", "guess(0, 5) = -6", "guess(0, MAX) = -6", "guess(0, -1) = -4", "guess(0, MIN) = -4",
                "forget() = 2", "guess(0, 1) = -6", "sight(10, 0) = 1", "guess(0, 10) = 0", "guess(0, 11) = -6",
                "sight(0, 0) = 2", "guess(0, 10) = 0");
        says("Promise 18: of several the least").goes("sight(4, 8) = 1", "guess(0, 1) = 1", "guess(0, 3) = 5", "forget() = 1",
                "sight(2, 4) = 1", "guess(0, 1) = 1", "guess(8, 1) = 5");
        says("Promise 18: most of these ways").goes("sight(4, 8) = 1", "guess(0, 2) = 4", "forget() = 1", "sight(1, 0) = 1",
                "sight(10, 0) = 2", "guess(0, 1) = 0");
        says("Promise 18: of the ways that fit all SIGHTS, later ones, too").goes("sight(2, 6) = 1", "sight(4, 8) = 2",
                "guess(0, 1) = 3", "guess(0, 3) = 7", "sight(3, 6) = 3", "guess(0, 1) = -9");
        says("Promises 17 and 18: in the last CELL of most").goes("tell(" + WIDE + ") = 1", "fits(29) = 1", "guess(29, 0) = 29",
                "sight(1, 29) = 1", "fits(29) = 1", "fits(28) = 1", "guess(29, 1) = 29", "guess(28, 0) = 28", "fits(27) = 0");
        says("Promise 18: -9 there is no way").goes("sight(3, 8) = 1", "fits(0) = 0", "guess(0, 0) = -9", "guess(0, 1) = -9",
                "guess(0, 3) = -9", "guess(2, 3) = 8", "guess(0, 4) = -6", "forget() = 1", "sight(0, 4) = 1", "guess(0, 0) = -9",
                "guess(4, 0) = 4", "count(16) = 1");
        says("Promise 18: -1 ahead of -4 and of -6").goes("guess(9, 0) = -1", "guess(9, -1) = -1", "guess(9, 1) = -1",
                "guess(-1, 0) = -1", "tell(m.#/..;) = 1", "guess(1, 0) = -1", "guess(1, 7) = -1", "count(11) = 6");
    }

    private static void forget() {
        says("Promise 19: how many there were").goes("forget() = 0", "sight(0, 0) = 1", "forget() = 1", "count(6) = 0",
                "forget() = 0", "sight(1, 0) = 1", "sight(1, 0) = 2", "sight(1, 0) = 3", "sight(1, 0) = 4", "sight(1, 0) = 5",
                "sight(1, 0) = 6", "forget() = 6", "count(6) = 0", "fits(8) = 1", "sight(2, 0) = 1", "fits(8) = 0");
    }

    private static void game() {
        says("Promise 20: 0 they are in one CELL").goes("game(4, 4, 0) = 0", "game(0, 0, 0) = 0", "tell(m.#/#.;) = 1",
                "game(3, 3, 0) = 0");
        says("Promise 20: 1 they are side by side").goes("game(0, 1, 0) = 1", "game(1, 0, 0) = 1", "game(4, 7, 0) = 1");
        says("Promise 20: -9 never").goes("game(0, 8, 0) = -9", "game(0, 4, 0) = -9", "tell(m../..;) = 1", "game(0, 3, 0) = -9",
                "tell(m.#/#.;) = 1", "game(0, 3, 0) = -9", "tell(m.#./.#.;) = 1", "game(0, 2, 0) = -9", "count(11) = 0");
        says("Promise 20: the hunter first").goes("tell(m..../####;) = 1", "game(0, 1, 0) = 1", "game(0, 2, 0) = 3",
                "game(0, 3, 0) = 3", "game(1, 3, 0) = 2", "game(1, 0, 0) = 1", "game(2, 0, 0) = 2");
        says("Promise 20: a long chase").goes("tell(m....../#.##.#/...#.#/.####./......;) = 1", "game(16, 18, 0) = 16",
                "game(16, 18, 1) = 0");
        says("Promise 20: the longest lane").goes("tell(m....../#####./....../.#####/......;) = 1", "game(0, 29, 0) = 19",
                "game(0, 1, 0) = 1", "game(0, 2, 0) = 19", "game(29, 0, 0) = 19", "game(29, 0, 1) = 3");
        says("Promise 20: -1 either").goes("game(9, 0, 0) = -1", "game(0, 9, 0) = -1", "game(-1, 0, 0) = -1", "game(0, -1, 1) = -1",
                "game(9, 9, 0) = -1", "game(MAX, MIN, 0) = -1", "tell(m.#/..;) = 1", "game(1, 0, 0) = -1", "game(0, 1, 1) = -1",
                "game(1, 1, 0) = -1", "count(11) = 9");
        says("Promise 20: -2").goes("game(0, 1, -1) = -2", "game(0, 1, 2) = -2", "game(0, 0, MAX) = -2", "game(0, 8, MIN) = -2",
                "count(12) = 4");
        says("Promise 20: -1 ahead of -2").goes("game(9, 0, 2) = -1", "game(0, 9, 2) = -1", "game(9, 9, -1) = -1", "count(11) = 3",
                "count(12) = 0");
    }

    private static void first() {
        says("Promise 20: FIRST, -9 caught already").goes("game(4, 4, 1) = -9", "game(0, 1, 1) = 1", "game(4, 4, 1) = -9",
                "tell(m.#/##;) = 1", "game(0, 0, 1) = -9");
        says("Promise 20: FIRST, -9 never").goes("game(0, 8, 1) = -9", "tell(m.#/#.;) = 1", "game(0, 3, 1) = -9", "count(11) = 0");
        says("Promise 20: FIRST, in each direction").goes("game(4, 1, 1) = 0", "game(4, 5, 1) = 1", "game(4, 7, 1) = 2",
                "game(4, 3, 1) = 3");
        says("Promise 20: FIRST, of several the first, n or e").goes("tell(m.#./.../.../...;) = 1", "game(7, 2, 0) = 3",
                "game(7, 2, 1) = 0");
        says("Promise 20: FIRST, of several the first, n or w").goes("tell(m..../.#../.#..;) = 1", "game(7, 0, 0) = 6",
                "game(7, 0, 1) = 0");
        says("Promise 20: FIRST, of several the first, e or s").goes("tell(m.##/.../.../.#.;) = 1", "game(4, 11, 0) = 3",
                "game(4, 11, 1) = 1");
        says("Promise 20: FIRST, of several the first, s or w").goes("tell(m#../...;) = 1", "game(2, 3, 0) = 3",
                "game(2, 3, 1) = 2");
    }

    private static void watchers() {
        String lane = "tell(m....../######;) = 1";
        says("Promise 21: r 1 .. 5").goes(lane, "watchers(0, 0) = -4", "watchers(1, 0) = 2", "watchers(1, 1) = {1 4}",
                "watchers(2, 0) = 2", "watchers(2, 1) = {0 3}", "watchers(3, 0) = 1", "watchers(3, 1) = {2}", "watchers(4, 1) = {1}",
                "watchers(5, 0) = 1", "watchers(5, 1) = {0}", "watchers(6, 0) = -6", "watchers(MIN, 0) = -4",
                "watchers(MAX, 1) = -6", "count(14) = 2", "count(16) = 2");
        says("Promise 21: in its column").goes("tell(m.#/.#/.#/.#/.#;) = 1", "watchers(1, 1) = {0 6}", "watchers(2, 1) = {4}",
                "watchers(3, 1) = {2}", "watchers(4, 1) = {0}", "watchers(5, 1) = {0}");
        says("Promise 21: up to the next HILL").goes("tell(m.#.../#####;) = 1", "watchers(5, 0) = 2", "watchers(5, 1) = {0 2}",
                "tell(m.#/##/.#;) = 1", "watchers(5, 1) = {0 4}");
        says("Promise 21: -2").goes("watchers(1, -1) = -2", "watchers(5, 2) = -2", "watchers(5, MAX) = -2", "watchers(5, MIN) = -2",
                "count(12) = 4");
        says("Promise 21: -4 and -6 ahead of -2").goes("watchers(0, 2) = -4", "watchers(0, -1) = -4", "watchers(6, 2) = -6",
                "watchers(6, -1) = -6", "count(14) = 2", "count(16) = 2", "count(12) = 0");
    }

    private static void watchersAtMost() {
        says("Promise 21: one").goes("tell(m.#/##;) = 1", "watchers(1, 0) = 1", "watchers(1, 1) = {0}", "tell(m##/#.;) = 1",
                "watchers(5, 0) = 1", "watchers(5, 1) = {3}");
        says("Promise 21: four").goes("tell(m.#./#.#/.#.;) = 1", "watchers(5, 0) = -9", "tell(m.#./#.#/.##;) = 1",
                "watchers(5, 0) = 4", "watchers(5, 1) = {0 2 4 6}");
        says("Promise 21: four in the last CELLS").goes("tell(m######/######/######/.#.#.#/#.####;) = 1", "watchers(1, 0) = 4",
                "watchers(1, 1) = {18 20 22 25}", "tell(m######/######/######/.#.#.#/#.###.;) = 1", "watchers(1, 0) = -9");
        says("Promise 21: five would do; -9").goes("tell(" + WIDE + ") = 1", "watchers(5, 0) = -9", "watchers(5, 1) = -9",
                "watchers(1, 0) = -9", "tell(m....../....../....../......;) = 1", "watchers(5, 0) = 4",
                "watchers(5, 1) = {0 6 12 18}");
        says("Promise 21: -9 without FREE CELLS").goes("tell(m##/##;) = 1", "watchers(1, 0) = -9", "watchers(5, 1) = -9",
                "watchers(0, 0) = -4", "watchers(6, 0) = -6", "watchers(1, 2) = -2");
        says("Promise 21: the first such set").goes("watchers(1, 0) = 3", "watchers(1, 1) = {0 2 7}", "watchers(2, 0) = 3",
                "watchers(2, 1) = {0 1 2}", "tell(m../..;) = 1", "watchers(1, 0) = 2", "watchers(1, 1) = {0 1}");
    }

    private static void seeds() {
        says("Promise 24: n 1 .. 60").goes("seeds(4, 0, 5, 0) = -4", "seeds(4, -1, 5, 0) = -4", "seeds(4, MIN, 5, 0) = -4",
                "seeds(4, 61, 5, 0) = -6", "seeds(4, MAX, 5, 0) = -6", "count(14) = 3", "count(16) = 2");
        says("Promise 24: the first counts").goes("seeds(0, 1, 0, 1) = 2", "seeds(0, 1, 0, 0) = 1", "tell(m.#/##;) = 1",
                "seeds(0, 1, 0, 1) = 1", "seeds(0, 60, 0, 1) = 1", "seeds(0, 60, 0, 0) = 0");
        says("Promise 24: -1").goes("seeds(9, 1, 0, 0) = -1", "seeds(-1, 1, 0, 0) = -1", "seeds(MAX, 1, 0, 0) = -1",
                "seeds(MIN, 1, 0, 1) = -1", "tell(m.#/..;) = 1", "seeds(1, 1, 0, 0) = -1", "seeds(4, 1, 0, 0) = -1", "count(11) = 6");
        says("Promise 24: -2").goes("seeds(0, 1, 0, -1) = -2", "seeds(0, 60, 0, 2) = -2", "seeds(0, 1, 0, MAX) = -2",
                "seeds(0, 1, 0, MIN) = -2", "count(12) = 4");
        says("Promise 24: -1 ahead of -4, of -6 and of -2").goes("seeds(9, 0, 0, 0) = -1", "seeds(9, 61, 0, 0) = -1",
                "seeds(9, 1, 0, 2) = -1", "seeds(9, 0, 0, 2) = -1", "seeds(9, 61, 0, -1) = -1", "count(11) = 5");
        says("Promise 24: -4 and -6 ahead of -2").goes("seeds(0, 0, 0, 2) = -4", "seeds(0, 61, 0, 2) = -6", "count(14) = 1",
                "count(16) = 1", "count(12) = 0");
    }

    /** The draws reckoned once more in whole numbers that never wrap around, on a bare moor of two by two. */
    private static void draws() {
        int[] seeds = {0, 1, -1, 5, Integer.MAX_VALUE, Integer.MIN_VALUE, 65536, -65536};
        int[][] leadTo = {{1, 2, 0}, {3, 0, 1}, {0, 3, 2}, {1, 2, 3}};
        BigInteger factor = BigInteger.valueOf(1103515245);
        BigInteger more = BigInteger.valueOf(12345);
        for (int z : seeds) {
            Run run = says("Terms: DRAWS").goes("tell(m../..;) = 1");
            BigInteger seed = BigInteger.valueOf(z);
            int at = 0;
            int seen = 1;
            for (int n = 1; n <= 60; n++) {
                seed = seed.multiply(factor).add(more);
                int draw = seed.mod(BigInteger.ONE.shiftLeft(31)).shiftRight(16).intValue() % 3;
                at = leadTo[at][draw];
                seen |= 1 << at;
                run.goes("seeds(0, " + n + ", " + z + ", 0) = " + at,
                        "seeds(0, " + n + ", " + z + ", 1) = " + Integer.bitCount(seen));
            }
        }
    }
}
