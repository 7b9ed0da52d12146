/** Edges of promises 22, 23 and 25 to 27: the row and its judging, the image, what is counted. */
public final class EdgesOfKeepingTest {
    private static final Due DUE = new Due("EdgesOfKeepingTest");

    public static void main(String[] args) {
        row();
        judge();
        judgeEmpties();
        imageOfNothing();
        imageHolds();
        imageLeavesOut();
        imageStays();
        restore();
        count();
        countsOfRefusals();
        DUE.end();
    }

    private static Run says(String sentence) {
        return new Run(DUE, sentence);
    }

    private static void row() {
        says("Promise 22: -4; -6 29").goes("row(0) = 1", "row(29) = 2", "row(-1) = -4", "row(30) = -6", "row(MIN) = -4",
                "row(MAX) = -6", "count(8) = 2", "count(14) = 2", "count(16) = 2");
        says("Promise 22: any of 0 .. 29 on any MOOR").goes("tell(m##/##;) = 1", "row(0) = 1", "row(4) = 2", "row(29) = 3");
        Run full = says("Promise 22: 12, too");
        for (int i = 1; i <= 12; i++) {
            full.goes("row(" + (i + 17) + ") = " + i);
        }
        full.goes("row(0) = -6", "row(29) = -6", "row(30) = -6", "count(16) = 3", "row(-1) = -4", "count(14) = 1",
                "count(8) = 12", "tell(p000;) = 1", "judge(0) = 0", "row(0) = 1");
    }

    private static void judge() {
        says("Promise 23: -9, the ROW has none").goes("tell(p000;) = 1", "judge(0) = -9", "judge(0) = -9");
        says("Promise 23: the first, from 0").goes("tell(p000ew;) = 1", "row(1) = 1", "row(0) = 2", "judge(0) = 0");
        for (int wrong = 0; wrong <= 12; wrong++) {
            Run run = says("Promise 23: the first that is not so, " + wrong).goes("tell(p000ew;p404;) = 2");
            for (int i = 0; i < 12; i++) {
                run.ask("row(" + (i < wrong ? i % 2 : i == wrong ? 4 : 8) + ")");
            }
            run.goes("count(8) = 12", "judge(0) = " + (wrong < 12 ? wrong : -9));
        }
        says("Promise 23: behind 0, 1, .. DAYS from now").goes("tell(p000ew;) = 1", "day() = 1", "row(1) = 1", "row(0) = 2",
                "row(1) = 3", "judge(0) = -9", "row(0) = 1", "judge(0) = 0");
        says("Promise 23: behind the last DAY").goes("tell(p003e-w-ns;) = 1", "days(60) = 1", "row(3) = 1", "row(4) = 2",
                "row(4) = 3", "row(3) = 4", "row(3) = 5", "row(0) = 6", "row(3) = 7", "row(4) = 8", "row(4) = 9", "row(3) = 10",
                "row(3) = 11", "row(0) = 12", "judge(0) = -9");
        says("Promise 23: told CELLS that there are not").goes("tell(m../..;p000;) = 2", "row(0) = 1", "row(29) = 2",
                "judge(0) = 1");
    }

    private static void judgeEmpties() {
        says("Promise 23: the ROW has none then, all so").goes("tell(p000;) = 1", "row(0) = 1", "row(0) = 2", "judge(0) = -9",
                "count(8) = 0", "row(0) = 1");
        says("Promise 23: the ROW has none then, one not so").goes("tell(p000;) = 1", "row(0) = 1", "row(1) = 2", "judge(0) = 1",
                "count(8) = 0", "row(0) = 1", "judge(0) = -9");
        says("Promise 23: -1 (it stays)").goes("row(5) = 1", "judge(0) = -1", "tell(p005;) = 1", "judge(1) = -1", "judge(-1) = -1",
                "judge(MAX) = -1", "judge(MIN) = -1", "count(8) = 1", "count(11) = 5", "judge(0) = -9", "count(8) = 0");
        says("Promise 23: -1 of an empty ROW").goes("judge(0) = -1", "count(8) = 0", "count(11) = 1");
        says("Promise 23: days are in mind").goes("tell(p000e;) = 1", "row(0) = 1", "row(1) = 2", "judge(0) = -9", "count(4) = 0",
                "person(0, 2) = 0");
    }

    private static void imageOfNothing() {
        says("Promise 25: of a new object").goes("image() = 0", "tell(m##/#.;p003;d3;) = 3", "day() = 0", "restore() = 0",
                "count(0) = 3", "count(1) = 3", "count(2) = 0", "count(3) = 0", "count(4) = 0", "count(5) = 1",
                "person(0, 0) = -1", "reach(0, 30) = {0 1 2 3 4 5 6 7 8}");
        says("Promise 25: of the last DAY").goes("tell(p004ew;) = 1", "days(60) = 1", "image() = 60", "tell(m../..;) = 1",
                "restore() = 60", "count(4) = 60", "day() = -6", "was(0, 0) = 4", "was(0, 59) = 5", "was(0, 60) = 4",
                "was(0, 61) = -6", "person(0, 2) = 4");
        says("Promise 25: of the DAY ahead of the last").goes("tell(p000ew;) = 1", "days(59) = 1", "image() = 59", "day() = 1",
                "day() = -6", "restore() = 59", "day() = 1", "count(4) = 60", "day() = -6", "count(16) = 2");
    }

    private static void imageHolds() {
        says("Terms: THE IMAGE holds the MOOR").goes("tell(m..#/.#./...;) = 1", "image() = 0", "tell(m../../../..;) = 1",
                "restore() = 0", "count(0) = 3", "count(1) = 3", "count(3) = 2", "reach(0, 1) = {0 1 3}", "reach(2, 0) = -1");
        says("Terms: THE IMAGE holds the PEOPLE").goes("tell(p001es;p253nesw-n;) = 2", "image() = 0", "tell(p008;) = 1",
                "count(2) = 3", "restore() = 0", "count(2) = 2", "person(2, 0) = -1", "person(0, 0) = 0", "person(0, 3) = 2",
                "person(0, 4) = 1", "person(1, 0) = 2", "person(1, 1) = 5", "person(1, 2) = 3", "person(1, 3) = 6");
        says("Terms: THE IMAGE holds where they were").goes("tell(p000es;) = 1", "days(3) = 1", "image() = 3", "days(2) = 0",
                "was(0, 5) = 8", "restore() = 3", "was(0, 0) = 0", "was(0, 1) = 1", "was(0, 2) = 4", "was(0, 3) = 5",
                "was(0, 4) = -6", "person(0, 2) = 5");
        says("Terms: THE IMAGE holds where late comers came").goes("tell(p404;) = 1", "days(4) = 0", "tell(p008nw;d3;) = 2",
                "image() = 4", "tell(m../..;) = 1", "restore() = 4", "sees(0, 1) = 8", "was(1, 0) = 8", "day() = 1",
                "sees(0, 1) = 8", "was(1, 5) = 5");
        says("Terms: THE IMAGE holds the DAY").goes("days(7) = 0", "image() = 7", "days(3) = 0", "count(4) = 10", "restore() = 7",
                "count(4) = 7", "day() = 0", "count(4) = 8");
        says("Terms: THE IMAGE holds the DELAY").goes("delay(3) = 1", "image() = 0", "delay(0) = 3", "restore() = 0",
                "count(5) = 3", "delay(2) = 3");
        says("Terms: others who came since leave no trace").goes("tell(p000e;) = 1", "day() = 1", "image() = 1", "tell(p108;) = 1",
                "day() = 2", "restore() = 1", "tell(p406;) = 1", "was(1, 0) = 6", "was(1, 1) = 6", "person(1, 0) = 4",
                "day() = 1", "was(1, 2) = 6");
    }

    private static void imageLeavesOut() {
        says("Terms: THE IMAGE leaves out letters").goes("feed(100) = 1", "image() = 0", "feed(50) = 2", "feed(59) = 3",
                "restore() = 0", "count(7) = 3", "moor() = 1", "count(5) = 2", "count(7) = 0", "restore() = 0", "count(7) = 0");
        says("Terms: THE IMAGE leaves out the ROW").goes("tell(p000;) = 1", "row(0) = 1", "image() = 0", "row(8) = 2",
                "restore() = 0", "count(8) = 2", "judge(0) = 1", "restore() = 0", "count(8) = 0");
        says("Terms: THE IMAGE leaves out SIGHTS").goes("sight(1, 1) = 1", "image() = 0", "sight(2, 4) = 2", "restore() = 0",
                "count(6) = 2", "fits(0) = 1", "guess(0, 2) = 4", "forget() = 2", "restore() = 0", "count(6) = 0");
        says("Terms: THE IMAGE leaves out REFUSALS").goes("person(0, 0) = -1", "restore() = -3", "delay(4) = -6", "image() = 0",
                "person(0, 0) = -1", "crowd(0, 2) = -2", "delay(-1) = -4", "restore() = 0", "count(11) = 2", "count(12) = 1",
                "count(13) = 1", "count(14) = 1", "count(15) = 0", "count(16) = 1");
    }

    private static void imageStays() {
        says("Terms: THE IMAGE leaves out itself").goes("tell(p000es;) = 1", "day() = 1", "image() = 1", "days(2) = 1",
                "restore() = 1", "tell(m##/#.;p003;d0;) = 3", "days(5) = 0", "restore() = 1", "count(0) = 3", "count(2) = 1",
                "count(4) = 1", "count(5) = 1", "person(0, 2) = 1", "delay(3) = 1", "day() = 1", "restore() = 1",
                "count(5) = 1", "person(0, 2) = 1");
        says("Promise 25: a later one takes its place").goes("tell(p000e;) = 1", "image() = 0", "day() = 1", "image() = 1",
                "day() = 1", "restore() = 1", "person(0, 2) = 1", "restore() = 1");
        says("Promise 25: taking changes nothing").goes("tell(p000es;p108;) = 2", "day() = 2", "image() = 1", "count(4) = 1",
                "person(0, 2) = 1", "day() = 2", "person(0, 2) = 4");
        says("Terms: a FAULT leaves THE IMAGE").goes("tell(p003;) = 1", "image() = 0", "tell(m##/##;p000;) = -2007",
                "tell(m../..;x) = -1007", "restore() = 0", "person(0, 2) = 3");
        says("Terms: a MOOR that is told leaves THE IMAGE").goes("tell(p003;) = 1", "image() = 0", "tell(m../..;) = 1",
                "tell(m.../...;) = 1", "restore() = 0", "count(0) = 3", "person(0, 2) = 3");
    }

    private static void restore() {
        says("Promise 26: -3 there is none").goes("restore() = -3", "restore() = -3", "count(13) = 2", "tell(p000e;) = 1",
                "day() = 1", "restore() = -3", "person(0, 2) = 1", "count(4) = 1", "image() = 1", "restore() = 1",
                "count(13) = 3");
        says("Promise 26: what was foreseen is foreseen anew").goes("tell(p000es;p108;) = 2", "image() = 0", "behind(1, 60) = 8",
                "days(4) = 2", "restore() = 0", "behind(0, 1) = 1", "behind(0, 2) = 4", "behind(0, 60) = 8", "was(0, 1) = -6");
    }

    private static void count() {
        says("Promise 27: each what").goes("tell(m..../.#.#;p000;p000;p000;d3;) = 5", "days(9) = 0", "sight(1, 0) = 1",
                "sight(1, 0) = 2", "feed(1) = 1", "row(0) = 1", "row(0) = 2", "row(0) = 3", "row(0) = 4", "count(0) = 2",
                "count(1) = 4", "count(2) = 3", "count(3) = 2", "count(4) = 9", "count(5) = 3", "count(6) = 2", "count(7) = 1",
                "count(8) = 4");
        says("Promise 27: -9 for another what").goes("count(-1) = -9", "count(9) = -9", "count(10) = -9", "count(17) = -9",
                "count(MIN) = -9", "count(MAX) = -9", "count(-6) = -9", "count(12) = 0", "count(11) = 0", "count(16) = 0");
    }

    private static void countsOfRefusals() {
        says("Promise 27: 11 .. 16 REFUSALS -1 .. -6").goes("judge(0) = -1", "crowd(0, 2) = -2", "crowd(0, 2) = -2",
                "restore() = -3", "restore() = -3", "restore() = -3", "delay(-1) = -4", "delay(-1) = -4", "delay(-1) = -4",
                "delay(-1) = -4", "delay(4) = -6", "delay(4) = -6", "delay(4) = -6", "delay(4) = -6", "delay(4) = -6",
                "count(11) = 1", "count(12) = 2", "count(13) = 3", "count(14) = 4", "count(15) = 0", "count(16) = 5",
                "count(10) = -9", "count(17) = -9");
        Run many = says("Promise 27: as many REFUSALS as there can be");
        for (int i = 0; i < 511; i++) {
            many.ask("restore()");
        }
        many.goes("count(13) = 511");
        says("Promise 27: -9 is no REFUSAL").goes("tell(p000;p008;) = 2", "meet(0, 1, 0) = -9", "meet(0, 1, 1) = -9",
                "sight(3, 8) = 1", "guess(0, 0) = -9", "game(0, 8, 0) = -9", "game(0, 8, 1) = -9", "judge(0) = -9",
                "tell(m##/##;) = 1", "watchers(1, 0) = -9", "watchers(1, 1) = -9", "crowd(0, 1) = -9", "count(9) = -9",
                "count(11) = 0", "count(12) = 0", "count(13) = 0", "count(14) = 0", "count(15) = 0", "count(16) = 0");
    }
}
