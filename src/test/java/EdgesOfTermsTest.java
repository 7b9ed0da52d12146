/** Edges that 'Terms' names, and promises 1 to 3: what a moor is, who is on it, how it is told in letters. */
public final class EdgesOfTermsTest {
    private static final Due DUE = new Due("EdgesOfTermsTest");
    private static final String WIDE = "m....../....../....../....../......;";

    public static void main(String[] args) {
        newObject();
        ground();
        stepsAtTheEdge();
        people();
        kindsAndFigures();
        figuresGoRound();
        plans();
        delays();
        feeding();
        lettersAtMost();
        somethingLacks();
        wrongLetters();
        numbersOutOfRange();
        noFreeCell();
        noRoom();
        bothFaults();
        allOrNothing();
        whatAMoorLeaves();
        lettersAreNoMore();
        DUE.end();
    }

    private static Run says(String sentence) {
        return new Run(DUE, sentence);
    }

    private static void newObject() {
        Run used = says("Promise 1: an object of its own").goes("tell(m##/#.;p003;d3;) = 3", "day() = 0", "delay(-1) = -4");
        says("Promise 1: three by three, nobody").goes("count(0) = 3", "count(1) = 3", "count(2) = 0", "count(3) = 0",
                "person(0, 0) = -1", "reach(8, 0) = {8}", "reach(9, 0) = -1", "crowd(0, 0) = 0", "crowd(0, 1) = -9");
        says("Terms: all FREE at first").goes("reach(0, 30) = {0 1 2 3 4 5 6 7 8}");
        says("Terms: DELAY 1, DAY 0 at first").goes("count(5) = 1", "count(4) = 0");
        says("Promise 1: nothing else is there").goes("count(6) = 0", "count(7) = 0", "count(8) = 0", "count(11) = 0",
                "count(12) = 0", "count(13) = 0", "count(14) = 0", "count(15) = 0", "count(16) = 0", "restore() = -3");
        used.goes("count(0) = 2", "count(3) = 3", "count(4) = 1", "count(5) = 3", "count(14) = 1");
    }

    private static void ground() {
        says("Terms: ROWS 2 ..").goes("tell(m...;) = -1004", "count(0) = 3", "tell(m.../...;) = 1", "count(0) = 2");
        says("Terms: ROWS 2 .., one of most COLUMNS").goes("tell(m......;) = -1007", "tell(m.....;) = -1006", "count(0) = 3");
        says("Terms: ROWS .. 5, of most COLUMNS").goes("tell(" + WIDE + ") = 1", "count(0) = 5", "count(1) = 6",
                "tell(" + WIDE.replace(";", "/......;") + ") = -1035", "count(0) = 5");
        says("Terms: ROWS .. 5").goes("tell(m../../../../..;) = 1", "count(0) = 5",
                "tell(m../../../../../..;) = -1015", "count(0) = 5");
        says("Terms: COLUMNS 2 ..").goes("tell(m./.;) = -1002", "count(1) = 3", "tell(m../..;) = 1", "count(1) = 2");
        says("Terms: COLUMNS .. 6").goes("tell(m....../......;) = 1", "count(1) = 6",
                "tell(m......./.......;) = -1007", "count(1) = 6");
        says("Terms: ROWS are as long as the first one, of the least").goes("tell(m../.;) = -1005", "tell(m../...;) = -1006",
                "tell(m../../.;) = -1008", "tell(m../../...;) = -1009", "tell(m../..;) = 1");
        says("Terms: ROWS are as long as the first one, of the greatest").goes("tell(m....../.....;) = -1013",
                "tell(m....../.......;) = -1014", "tell(m....../...../......;) = -1013", "tell(m....../......;) = 1");
        says("Terms: CELLS 0 .. by rows, fewest").goes("tell(m../..;) = 1", "reach(0, 0) = {0}", "reach(3, 0) = {3}",
                "reach(4, 0) = -1", "reach(-1, 0) = -1");
        says("Terms: CELLS 0 .. by rows, most").goes("tell(" + WIDE + ") = 1", "reach(29, 0) = {29}", "reach(30, 0) = -1",
                "reach(31, 0) = -1", "reach(32, 0) = -1", "reach(MAX, 0) = -1", "reach(MIN, 0) = -1");
        says("Terms: each is FREE or a HILL").goes("tell(m#./.#;) = 1", "count(3) = 2", "reach(0, 0) = -1",
                "reach(1, 0) = {1}", "reach(2, 0) = {2}", "reach(3, 0) = -1", "tell(m##/##;) = 1", "count(3) = 4",
                "tell(m../..;) = 1", "count(3) = 0", "tell(" + WIDE.replace('.', '#') + ") = 1", "count(3) = 30");
    }

    private static void stepsAtTheEdge() {
        says("Terms: no row up, no column right, none down, none left").goes(
                "tell(p001n;p002e;p007s;p003w;) = 4", "person(0, 4) = 4", "person(1, 4) = 4", "person(2, 4) = 4",
                "person(3, 4) = 4", "day() = 0", "person(1, 2) = 2", "person(3, 2) = 3");
        says("Terms: up to the edge").goes("tell(p004n;p001e;p004s;p004w;) = 4", "person(0, 4) = 0", "person(1, 4) = 1",
                "person(2, 4) = 2", "person(3, 4) = 3", "day() = 4", "person(0, 2) = 1", "person(1, 2) = 2",
                "person(2, 2) = 7", "person(3, 2) = 3");
        says("Terms: a HILL is no FREE CELL").goes("tell(m.#./#.#/.#.;p004n;p004e;p004s;p004w;) = 5", "day() = 0");
        says("Terms: stay always, shut in").goes("tell(m.#/#.;p000-;p103;p203;p303;p503;) = 6", "person(0, 4) = 4",
                "person(1, 4) = 4", "person(2, 4) = 4", "person(3, 4) = 4", "person(4, 4) = 4", "reach(0, 30) = {0}",
                "ways(0, 0, 10) = 1", "seeds(0, 60, 9, 0) = 0");
    }

    private static void people() {
        says("Terms: PEOPLE 0 .. 4, none").goes("count(2) = 0", "person(0, 0) = -1", "person(-1, 0) = -1");
        says("Terms: PEOPLE 0 .. 4, all").goes("tell(p000;p111;p222;p333;p444;) = 5", "count(2) = 5", "person(4, 0) = 4",
                "person(4, 1) = 4", "person(4, 2) = 4", "person(5, 0) = -1");
        says("Terms: PEOPLE as they come").goes("tell(p008;) = 1", "tell(p101;p202;) = 2", "person(0, 2) = 8",
                "person(1, 2) = 1", "person(2, 2) = 2", "person(3, 2) = -1");
    }

    private static void kindsAndFigures() {
        says("Terms: KINDS 0 .. 5").goes("tell(p000;) = 1", "tell(p500;) = 1", "person(0, 0) = 0", "person(1, 0) = 5",
                "tell(p600;) = -2000", "tell(p700;) = -2000", "tell(p800;) = -2000", "tell(p900;) = -2000",
                "tell(p/00;) = -1001", "tell(p:00;) = -1001", "count(2) = 2");
        says("Terms: FIGURE 0 .. 9").goes("tell(p000;p090;) = 2", "person(0, 1) = 0", "person(1, 1) = 9",
                "tell(p0/0;) = -1002", "tell(p0:0;) = -1002", "count(2) = 2");
        says("Terms: under one another").goes("tell(p000;p100;p200;p300;p400;) = 5", "person(0, 0) = 0",
                "person(1, 0) = 1", "person(2, 0) = 2", "person(3, 0) = 3", "person(4, 0) = 4");
    }

    /** The others stand north, east, south and west of the hunter, who is the last: his step tells whom he hunts. */
    private static void figuresGoRound() {
        int[] step = {0, 1, 2, 3, 4, 0, 1, 2, 3, 4};
        for (int figure = 0; figure <= 9; figure++) {
            for (int kind = 1; kind <= 5; kind += 2) {
                says("Terms: FIGURE modulo how many there are, kind " + kind).goes(
                        "tell(" + WIDE + "p402;p4017;p4026;p4012;p" + kind + figure + "14;) = 6",
                        "person(4, 4) = " + step[figure]);
            }
            says("Terms: alone it is he himself, as a WALKER").goes("tell(p1" + figure + "4sn;) = 1",
                    "person(0, 4) = 2", "day() = 1", "person(0, 4) = 0");
        }
        says("Terms: modulo as many as there are now").goes("tell(p134s;) = 1", "person(0, 4) = 2", "tell(p401;) = 1",
                "person(0, 4) = 0", "tell(p405;) = 1", "person(0, 4) = 2", "tell(p403;) = 1", "person(0, 4) = 3");
        says("Terms: HARE, nobody else: as a WALKER").goes("tell(p204w;) = 1", "person(0, 4) = 3", "tell(p403;) = 1",
                "person(0, 4) = 0");
    }

    private static void plans() {
        says("Terms: PLAN 0 .. STEPS").goes("tell(p004;) = 1", "person(0, 3) = 0", "person(0, 4) = 4", "day() = 0",
                "person(0, 4) = 4");
        says("Terms: PLAN .. 6 STEPS").goes("tell(p004nesw-n;) = 1", "person(0, 3) = 6", "tell(p004nesw-ne;) = -1010",
                "tell(p0004nesw-n;) = 1", "person(1, 3) = 6", "tell(p0004nesw-ne;) = -1011", "count(2) = 2");
        says("Terms: PLAN of one STEP, round and round").goes("tell(m....../......;p000e;) = 2", "person(0, 3) = 1",
                "days(5) = 1", "person(0, 2) = 5", "person(0, 4) = 4", "day() = 0");
        Run six = says("Terms: PLAN of six STEPS by DAY, round and round").goes("tell(p000eswn-e;) = 1");
        int[] steps = {1, 2, 3, 0, 4, 1, 1, 2, 3};
        for (int i = 0; i < steps.length; i++) {
            six.goes("count(4) = " + i, "person(0, 4) = " + steps[i]);
            six.ask("day()");
        }
        says("Terms: a PLAN goes by DAY where a STEP may not be made, too").goes("tell(p000nwes;) = 1", "person(0, 4) = 4",
                "day() = 0", "person(0, 4) = 4", "day() = 0", "person(0, 4) = 1", "day() = 1", "person(0, 4) = 2",
                "day() = 1", "person(0, 2) = 4", "person(0, 4) = 0");
        says("Terms: a PLAN on the last DAY").goes("tell(p003e-w-ns;) = 1", "days(59) = 1", "person(0, 4) = 2",
                "day() = 1", "person(0, 4) = 1", "day() = -6");
        says("Terms: STILL stay, with a PLAN, too").goes("tell(p404nesw-n;) = 1", "person(0, 3) = 6", "day() = 0",
                "day() = 0");
    }

    private static void delays() {
        says("Terms: DELAY 0 .. 3, told").goes("tell(d0;) = 1", "count(5) = 0", "tell(d3;) = 1", "count(5) = 3",
                "tell(d4;) = -2000", "tell(d9;) = -2000", "count(5) = 3", "tell(d/;) = -1001", "tell(d:;) = -1001",
                "tell(d-1;) = -1001", "tell(d;) = -1001", "tell(d00;) = -1002", "count(5) = 3");
        says("Terms: where it came, if it was not there yet").goes("tell(m....../......;p400;d3;) = 3", "days(5) = 0",
                "tell(p007e;) = 1", "sees(0, 1) = 7", "days(3) = 1", "person(1, 2) = 10", "sees(0, 1) = 7",
                "day() = 1", "sees(0, 1) = 8", "day() = 0", "sees(0, 1) = 9");
    }

    private static void feeding() {
        says("Promise 2: -4; -6 255").goes("feed(-1) = -4", "feed(MIN) = -4", "feed(256) = -6", "feed(MAX) = -6",
                "feed(0) = 1", "feed(255) = 2", "count(7) = 2", "count(14) = 2", "count(16) = 2");
        Run full = says("Promise 2: 80, too");
        for (int i = 1; i <= 80; i++) {
            full.goes("feed(" + (i % 256) + ") = " + i);
        }
        full.goes("feed(109) = -6", "feed(0) = -6", "feed(256) = -6", "feed(-1) = -4", "count(7) = 80", "count(16) = 3",
                "count(14) = 1", "moor() = -1000", "feed(109) = 1");
    }

    private static void lettersAtMost() {
        String three = "p000nesw-n;p111nesw-n;p222nesw-n;";
        says("Terms: 80 letters are a MOOR").goes("tell(" + WIDE + three + "p5329esw--;) = 5", "count(2) = 4",
                "count(0) = 5", "count(1) = 6", "person(3, 2) = 29", "person(3, 3) = 5", "count(16) = 0");
        says("Terms: the letter 81 is not there").goes("tell(" + WIDE + three + "p5329esw--;d3;) = 5", "count(16) = 3",
                "count(5) = 1");
        says("Terms: the end lacks behind 80 letters").goes("tell(" + "d1;".repeat(26) + "d3) = -1080", "count(5) = 1");
        says("Terms: the last of 80 letters is wrong").goes("tell(" + "d1;".repeat(26) + "dx) = -1079");
        says("Terms: the last STATEMENT of 80 letters is wrong").goes("tell(" + WIDE + three + "p5330esw--;) = -2069",
                "count(0) = 3");
        says("Terms: 26 STATEMENTS").goes("tell(" + "d0;".repeat(25) + "d2;) = 26", "count(5) = 2");
    }

    private static void somethingLacks() {
        says("Terms: at least one STATEMENT").goes("moor() = -1000", "tell() = -1000", "tell(d1;) = 1", "moor() = -1000");
        String[] starts = {"m", "m.", "m..", "m../", "m../.", "m../..", "m../../../../..", "m....../......", "p", "p0",
            "p00", "p000", "p0000", "p000n", "p000nesw-n", "p0000nesw-n", "d", "d0", "d9", "p999"};
        for (String start : starts) {
            says("Terms: the end, if something lacks").goes("tell(" + start + ") = " + (-1000 - start.length()),
                    "tell(d1;" + start + ") = " + (-1003 - start.length()));
        }
    }

    private static void wrongLetters() {
        String[] starts = {"", "m", "m.", "m..", "m../", "m../.", "m../..", "m../../../../..", "m....../......", "p", "p0",
            "p00", "p000", "p0000", "p000n", "p000nesw-n", "p0000nesw-n", "d", "d0"};
        String[] goOn = {"mpd", ".#", ".#", ".#/", ".#", ".#", "/;", ";", "/;", "0123456789", "0123456789",
            "0123456789", "0123456789nesw-;", "nesw-;", "nesw-;", ";", ";", "0123456789", ";"};
        for (int i = 0; i < starts.length; i++) {
            for (int letter = 0; letter <= 255; letter++) {
                SeenADayLate x = new SeenADayLate();
                for (char c : starts[i].toCharArray()) {
                    x.feed(c);
                }
                x.feed(letter);
                boolean on = goOn[i].indexOf(letter) >= 0;
                int answer = x.moor();
                int here = -1000 - starts[i].length();
                boolean fine = on ? answer == here - 1 || letter == ';' && answer == 1 : answer == here;
                DUE.holds("Terms: the first letter with which no MOOR can go on, " + starts[i] + " then " + letter, fine);
            }
        }
        says("Terms: of wrong letters the first").goes("tell(xx) = -1000", "tell(d1;xx) = -1003", "tell(m..;x) = -1003",
                "tell(p000nxnx) = -1005");
    }

    private static void numbersOutOfRange() {
        says("Terms: kind 2, a number out of range").goes("tell(p500;) = 1", "tell(p600;) = -2000", "tell(d3;) = 1",
                "tell(d4;) = -2000");
        says("Terms: the first letter of the first STATEMENT that is not as it must be").goes("tell(d1;d4;) = -2003",
                "tell(d4;d4;) = -2000", "tell(p000;d4;p600;) = -2005", "tell(p000nesw-n;p600;d4;) = -2011",
                "tell(m../..;d4;) = -2007", "count(2) = 0", "count(0) = 3");
    }

    private static void noFreeCell() {
        says("Terms: kind 2, no FREE CELL").goes("tell(p008;) = 1", "tell(p009;) = -2000", "tell(p0009;) = -2000",
                "tell(p0010;) = -2000", "tell(p0099;) = -2000", "tell(p0008;) = 1", "count(2) = 2");
        says("Terms: kind 2, no FREE CELL of many").goes("tell(" + WIDE + "p0029;) = 2", "tell(p0030;) = -2000",
                "tell(p0031;) = -2000", "tell(p0032;) = -2000", "count(2) = 1");
        says("Terms: kind 2, no FREE CELL where a HILL is").goes("tell(m.#/..;p000;) = 2", "tell(p001;) = -2000",
                "tell(m#./..;p000;) = -2007", "tell(p001;) = -2000", "tell(m#./..;p001;) = 2");
        says("Terms: FREE on the MOOR that is told").goes("tell(m../..;p003;m.../...;p005;) = 4", "tell(m../..;p005;) = -2007",
                "tell(p005;m../..;) = 2", "count(2) = 0", "count(0) = 2", "count(1) = 2");
        says("Terms: CELL 1 or 2 digits").goes("tell(p00;) = -1003", "tell(p00n;) = -1003", "tell(p003;) = 1",
                "person(0, 2) = 3", "tell(p0003;) = 1", "person(1, 2) = 3", "tell(p00003;) = -1005", "tell(p00110;) = -1005");
        says("Terms: two in one CELL are fine").goes("tell(p004;p004;) = 2");
    }

    private static void noRoom() {
        says("Terms: kind 2, no room, in one telling").goes("tell(p000;p000;p000;p000;p000;p000;) = -2025", "count(2) = 0",
                "tell(p000;p000;p000;p000;p000;) = 5", "count(2) = 5");
        says("Terms: kind 2, no room, later").goes("tell(p000;p000;p000;p000;) = 4", "tell(p000;p000;) = -2005",
                "count(2) = 4", "tell(p000;) = 1", "tell(p000;) = -2000", "count(2) = 5", "tell(d0;) = 1");
        says("Terms: nobody is on a new MOOR, so that there is room").goes("tell(p000;p000;p000;p000;p000;) = 5",
                "tell(m../..;p000;p000;p000;p000;p000;p000;) = -2032", "tell(p000;m../..;) = -2000", "count(2) = 5",
                "tell(m../..;p000;p000;p000;p000;p000;) = 6", "count(2) = 5");
    }

    private static void bothFaults() {
        says("Terms: kind 1, else kind 2").goes("tell(d9;x) = -1003", "tell(d9;) = -2000", "tell(d9;d) = -1004",
                "tell(p600;p009;m..;) = -1013", "tell(p600) = -1004", "tell(p999nnnnnnn;) = -1010");
    }

    private static void allOrNothing() {
        String[] bad = {"d0;m../..;p000;d0;x", "d0;m../..;p000;d9;", "p004;p009;", "m##/##;p000;", "d2;d4;", "p404;p404;p404;p404;"};
        for (String text : bad) {
            Run run = says("Terms: with one nothing").goes("tell(m.../.#./...;p000es;p108;d3;) = 4", "days(2) = 1");
            DUE.holds("Terms: a FAULT of " + text, run.ask("tell(" + text + ")") <= -1000);
            run.goes("count(0) = 3", "count(1) = 3", "count(2) = 2", "count(3) = 1", "count(4) = 2", "count(5) = 3",
                    "count(7) = 0", "person(0, 2) = 1", "person(0, 3) = 2", "was(0, 0) = 0", "was(0, 1) = 1", "was(0, 2) = 1",
                    "person(1, 0) = 1", "was(1, 0) = 8", "person(2, 0) = -1", "reach(4, 0) = -1");
        }
        says("Terms: without FAULT all of it comes, one behind the other").goes("tell(d0;p004;m.../..#;d2;p003e;p011;d3;) = 7",
                "count(0) = 2", "count(1) = 3", "count(2) = 2", "count(3) = 1", "count(5) = 3", "person(0, 2) = 3",
                "person(0, 3) = 1", "person(1, 1) = 1", "person(1, 2) = 1");
    }

    private static void whatAMoorLeaves() {
        says("Terms: nobody is on it, DAY is 0 then").goes("tell(p000es;p108;d2;) = 3", "days(7) = 1", "tell(m../..;) = 1",
                "count(2) = 0", "count(4) = 0", "count(5) = 2", "person(0, 0) = -1", "tell(p003w;) = 1", "was(0, 0) = 3",
                "was(0, 1) = -6", "sees(0, 1) = -1", "day() = 1", "was(0, 0) = 3", "was(0, 1) = 2");
        says("Terms: DAY stays without a new MOOR").goes("tell(p000es;) = 1", "days(3) = 1", "tell(p104;d0;) = 2",
                "count(4) = 3", "was(0, 1) = 1");
        says("Terms: a new MOOR on the last DAY").goes("days(60) = 0", "day() = -6", "tell(m../..;) = 1", "count(4) = 0",
                "day() = 0", "count(4) = 1");
        says("Terms: SIGHTS, the ROW and REFUSALS are none of the MOOR").goes("sight(2, 8) = 1", "row(8) = 1",
                "restore() = -3", "tell(m../..;p000;) = 2", "count(6) = 1", "count(8) = 1", "count(13) = 1",
                "fits(0) = 0", "guess(0, 2) = -9", "judge(0) = 0");
    }

    private static void lettersAreNoMore() {
        says("Promise 3: the letters are no more then").goes("tell(d2;) = 1", "count(7) = 0", "moor() = -1000",
                "tell(d4;) = -2000", "count(7) = 0", "moor() = -1000", "tell(x) = -1000", "count(7) = 0", "moor() = -1000",
                "tell(m../..;) = 1", "count(7) = 0", "feed(59) = 1", "moor() = -1000", "count(5) = 2");
        Run quiet = says("Promise 3: nothing is counted").goes("moor() = -1000", "tell(d4;) = -2000", "tell(m.;) = -1002",
                "tell(p000;p000;p000;p000;p000;p000;) = -2025", "tell(p009;) = -2000");
        for (int what = 11; what <= 16; what++) {
            quiet.goes("count(" + what + ") = 0");
        }
    }
}
