/** Edges of promises 4 to 12: people, the delay, days, who sees whom, what will be. */
public final class EdgesOfDaysTest {
    private static final Due DUE = new Due("EdgesOfDaysTest");
    private static final String LANE = "m....../......;";

    public static void main(String[] args) {
        person();
        ties();
        delay();
        lateLight();
        dogsAndReckoners();
        day();
        was();
        sees();
        behind();
        meet();
        pass();
        never();
        crowd();
        DUE.end();
    }

    private static Run says(String sentence) {
        return new Run(DUE, sentence);
    }

    private static void person() {
        says("Promise 4: -1, nobody is there").goes("person(0, 0) = -1", "person(0, 5) = -1", "person(-1, 0) = -1",
                "count(11) = 3", "count(12) = 0");
        says("Promise 4: -1").goes("tell(p000;p001;) = 2", "person(0, 0) = 0", "person(1, 0) = 0", "person(2, 0) = -1",
                "person(-1, 0) = -1", "person(MAX, 0) = -1", "person(MIN, 0) = -1", "count(11) = 4");
        says("Promise 4: -2").goes("tell(p253es;) = 1", "person(0, -1) = -2", "person(0, 0) = 2",
                "person(0, 1) = 5", "person(0, 2) = 3", "person(0, 3) = 2", "person(0, 4) = 1", "person(0, 5) = -2",
                "person(0, MAX) = -2", "person(0, MIN) = -2", "count(12) = 4");
        says("Promise 4: -1 ahead of -2").goes("tell(p000;) = 1", "person(1, 5) = -1", "person(-1, -1) = -1",
                "count(11) = 2", "count(12) = 0");
        says("Promise 4: a next STEP on the last DAY, too").goes("tell(p000ew;) = 1", "days(60) = 1", "person(0, 4) = 1",
                "day() = -6", "person(0, 4) = 1");
    }

    /** One in the middle, the other where he stands or in a corner, so that several steps are as good. */
    private static void ties() {
        int[] corner = {0, 2, 6, 8};
        int[] first = {0, 0, 2, 1};
        for (int i = 0; i < corner.length; i++) {
            says("Terms: HUNTER, of several the first").goes("tell(p40" + corner[i] + ";p104;) = 2",
                    "person(1, 4) = " + first[i]);
        }
        says("Terms: HUNTER stays where WAY is 0").goes("tell(p404;p104;) = 2", "person(1, 4) = 4");
        says("Terms: HUNTER, HILLS aside").goes("tell(m.../.#./...;p407;p101;) = 3", "person(1, 4) = 4", "day() = 0");
        says("Terms: HUNTER, of several the first that MAY be made").goes("tell(m.#./#../...;p400;p104;) = 3",
                "person(1, 4) = 4");
        int[] flight = {1, 2, 0, 0};
        for (int i = 0; i < corner.length; i++) {
            says("Terms: HARE, of several the first").goes("tell(p40" + corner[i] + ";p204;) = 2",
                    "person(1, 4) = " + flight[i]);
        }
        says("Terms: HARE, of several the first, where all are taken").goes("tell(m../..;p401;p402;p400;p200;) = 5",
                "person(3, 4) = 1", "day() = 1");
        says("Terms: HARE stays where none is better").goes("tell(p400;p208;) = 2", "person(1, 4) = 4");
        says("Terms: HARE, the least WAY to all others").goes("tell(" + LANE + "p400;p405;p202;) = 4", "person(2, 4) = 2",
                "tell(p406;) = 1", "person(2, 4) = 1", "tell(" + LANE + "p400;p202;) = 3", "person(1, 4) = 1");
    }

    private static void delay() {
        says("Promise 5: what it was").goes("delay(0) = 1", "delay(1) = 0", "delay(2) = 1", "delay(3) = 2", "delay(3) = 3",
                "count(5) = 3");
        says("Promise 5: -4").goes("delay(0) = 1", "delay(-1) = -4", "delay(MIN) = -4", "count(5) = 0", "count(14) = 2");
        says("Promise 5: -6 3").goes("delay(3) = 1", "delay(4) = -6", "delay(MAX) = -6", "count(5) = 3", "count(16) = 2");
    }

    /** Person 0 goes a cell a day, so that where he is seen tells the day that is seen. */
    private static void lateLight() {
        for (int lag = 0; lag <= 3; lag++) {
            Run run = says("Terms: SEES where that one was DELAY DAYS ago, " + lag).goes(
                    "tell(" + LANE + "p000e;p4011;d" + lag + ";) = 4");
            for (int day = 0; day <= 5; day++) {
                run.goes("sees(1, 0) = " + Math.max(0, day - lag));
                run.ask("day()");
            }
        }
        says("Terms: a DELAY that changes shows other DAYS").goes("tell(" + LANE + "p000e;p4011;) = 3", "days(4) = 1",
                "delay(0) = 1", "sees(1, 0) = 4", "delay(3) = 0", "sees(1, 0) = 1", "delay(1) = 3", "sees(1, 0) = 3");
        says("Terms: late light on the last DAY").goes("tell(m../..;p000ew;p403;d3;) = 4", "days(60) = 1", "sees(1, 0) = 1",
                "delay(2) = 3", "sees(1, 0) = 0", "delay(0) = 2", "sees(1, 0) = 0");
    }

    /** Hunters of a kind that aim at a cell stay on it and go to it from all sides. */
    private static void aims(String sentence, int kind, int lag, int day, int goal) {
        Run run = says(sentence + ", DELAY " + lag + ", DAY " + day).goes("tell(" + LANE + "p000e;d" + lag + ";) = 3");
        run.ask("days(" + day + ")");
        run.goes("tell(p" + kind + "0" + goal + ";p" + kind + "0" + (goal + 6) + ";) = 2", "person(1, 4) = 4",
                "person(2, 4) = 0");
        if (goal > 0) {
            run.goes("tell(p" + kind + "0" + (goal - 1) + ";) = 1", "person(3, 4) = 1");
        }
        if (goal < 5) {
            int who = goal > 0 ? 4 : 3;
            run.goes("tell(p" + kind + "0" + (goal + 1) + ";) = 1", "person(" + who + ", 4) = 3");
        }
    }

    private static void dogsAndReckoners() {
        for (int lag = 0; lag <= 3; lag++) {
            for (int day = 0; day <= 9; day++) {
                int seen = Math.min(5, Math.max(0, day - lag));
                int ahead = Math.min(5, Math.max(0, day - lag - 1));
                aims("Terms: HUNTER to where he SEES that one", 1, lag, day, seen);
                aims("Terms: DOG to where that one was one DAY ahead of that", 3, lag, day, ahead);
                aims("Terms: RECKONER to where that one would be now", 5, lag, day,
                        Math.min(5, seen + lag * (seen - ahead)));
            }
        }
        int[] start = {14, 15, 14, 14};
        int[] edge = {2, 17, 26, 12};
        for (int i = 0; i < start.length; i++) {
            says("Terms: RECKONER, rows and columns that there are not: the nearest that there is, " + "nesw".charAt(i)).goes(
                    "tell(m....../....../....../....../......;p00" + start[i] + "nesw".charAt(i) + ";d3;) = 3", "days(4) = 0",
                    "tell(p50" + edge[i] + ";p505;p5024;) = 3", "person(1, 4) = 4", "person(2, 4) = " + "3222".charAt(i),
                    "person(3, 4) = " + "0010".charAt(i));
        }
        says("Terms: RECKONER, HILLS aside").goes("tell(m...#../......;p000e;d2;) = 3", "days(3) = 0", "person(0, 2) = 2",
                "tell(p509;) = 1", "person(1, 4) = 4");
    }

    private static void day() {
        says("Promise 6: how many changed, nobody there").goes("day() = 0", "count(4) = 1");
        says("Promise 6: how many changed, all").goes("tell(p000e;p000s;p008n;p008w;p004n;) = 5", "day() = 5");
        says("Promise 6: how many changed, none").goes("tell(p000n;p000w;p008e;p008s;p404n;) = 5", "day() = 0");
        says("Promise 6: all at once").goes("tell(p110;p101;d0;) = 3", "day() = 2", "person(0, 2) = 1", "person(1, 2) = 0");
        says("Promise 6: -6 DAY is 60").goes("tell(p000ew;) = 1", "days(59) = 1", "count(4) = 59", "day() = 1",
                "count(4) = 60", "day() = -6", "day() = -6", "count(4) = 60", "person(0, 2) = 0", "count(16) = 2");
        says("Promise 6: -6 with nobody, too").goes("days(60) = 0", "day() = -6", "count(16) = 1");
    }

    private static void was() {
        says("Promise 7: on the first DAY").goes("tell(p004e;) = 1", "was(0, 0) = 4", "was(0, 1) = -6", "was(0, -1) = -4",
                "was(0, MAX) = -6", "was(0, MIN) = -4", "count(14) = 2", "count(16) = 2");
        says("Promise 7: above DAY").goes("tell(p003e;) = 1", "day() = 1", "was(0, 0) = 3", "was(0, 1) = 4",
                "was(0, 2) = -6", "day() = 1", "was(0, 2) = 5", "was(0, 3) = -6");
        says("Promise 7: on the last DAY").goes("tell(p000ew;) = 1", "days(60) = 1", "was(0, 60) = 0", "was(0, 59) = 1",
                "was(0, 0) = 0", "was(0, 61) = -6", "was(0, -1) = -4");
        says("Promise 7: -1 ahead of -4 and of -6").goes("was(0, 0) = -1", "was(0, -1) = -1", "was(0, 1) = -1",
                "tell(p000;) = 1", "was(1, -1) = -1", "was(1, 1) = -1", "was(-1, -1) = -1", "count(11) = 6", "count(14) = 0");
        says("Promise 7: of a late comer").goes("tell(p004ew;) = 1", "days(3) = 1", "tell(p007n;) = 1", "was(1, 3) = 7",
                "was(1, 2) = 7", "was(1, 0) = 7", "was(1, 4) = -6", "day() = 2", "was(1, 3) = 7", "was(1, 4) = 4");
        says("Promise 7: what is in mind was not").goes("tell(p000es;) = 1", "behind(0, 60) = 8", "was(0, 1) = -6",
                "day() = 1", "was(0, 1) = 1");
    }

    private static void sees() {
        says("Promise 8: -1 two, of nobody").goes("sees(0, 1) = -1", "sees(0, 0) = -1", "count(11) = 2");
        says("Promise 8: -1 two, alone").goes("tell(p000;) = 1", "sees(0, 0) = -1", "sees(0, 1) = -1", "sees(1, 0) = -1");
        says("Promise 8: -1 two").goes("tell(p000;p008;) = 2", "sees(0, 1) = 8", "sees(1, 0) = 0", "sees(0, 0) = -1",
                "sees(1, 1) = -1", "sees(0, 2) = -1", "sees(2, 0) = -1", "sees(2, 2) = -1", "sees(-1, 0) = -1",
                "sees(0, -1) = -1", "sees(MIN, MAX) = -1", "count(11) = 8");
        says("Promise 8: of five").goes("tell(p000;p001;p002;p003;p004;) = 5", "sees(4, 0) = 0", "sees(0, 4) = 4",
                "sees(4, 3) = 3", "sees(4, 5) = -1", "sees(5, 4) = -1");
    }

    private static void behind() {
        says("Promise 9: 0 .. 60").goes("tell(p000ew;) = 1", "behind(0, 0) = 0", "behind(0, 1) = 1", "behind(0, 59) = 1",
                "behind(0, 60) = 0", "behind(0, 61) = -6", "behind(0, -1) = -4", "behind(0, MAX) = -6",
                "behind(0, MIN) = -4", "count(14) = 2", "count(16) = 2", "count(4) = 0");
        says("Promise 9: -1 ahead of -4 and of -6").goes("behind(0, 0) = -1", "behind(0, -1) = -1", "behind(0, 61) = -1",
                "tell(p000;) = 1", "behind(1, -1) = -1", "behind(1, 61) = -1", "behind(-1, 0) = -1", "count(11) = 6");
        says("Terms: as if there were no end").goes("tell(p003e-w-ns;) = 1", "days(60) = 1", "behind(0, 0) = 3",
                "behind(0, 1) = 4", "behind(0, 2) = 4", "behind(0, 3) = 3", "behind(0, 5) = 0", "behind(0, 59) = 0",
                "behind(0, 60) = 3", "day() = -6", "count(4) = 60");
        says("Terms: BEHIND by the light of the last DAYS").goes("tell(" + LANE + "p000eeewww;p1011;d3;) = 4", "days(59) = 2",
                "behind(1, 1) = 2", "day() = 2", "person(1, 2) = 2");
        says("Terms: in mind, from now, where one came today").goes("tell(p404;) = 1", "days(2) = 0", "tell(p003e;) = 1",
                "behind(1, 1) = 4", "person(1, 2) = 3", "meet(1, 0, 0) = 1", "never(1, 0) = {0 1 2 4 5 6 7 8}",
                "crowd(2, 1) = 4", "person(1, 2) = 3", "was(1, 2) = 3");
        says("Terms: in mind, from now, where DELAY changed today").goes("tell(m....../......;p000e;p101;d3;) = 4", "days(3) = 1",
                "person(1, 2) = 0", "delay(0) = 3", "behind(1, 1) = 1", "person(1, 2) = 0", "behind(1, 2) = 2",
                "person(1, 2) = 0", "was(1, 3) = 0");
        says("Promise 9: in mind").goes("tell(p000es;p108;) = 2", "behind(0, 60) = 8", "behind(1, 60) = 8", "person(0, 2) = 0",
                "person(1, 2) = 8", "count(4) = 0", "day() = 2", "sees(1, 0) = 0", "person(0, 2) = 1");
    }

    private static void meet() {
        says("Promise 10: MEET now").goes("tell(p004n;p004s;) = 2", "meet(0, 1, 0) = 0", "meet(1, 0, 0) = 0", "day() = 2",
                "meet(0, 1, 0) = -9");
        says("Promise 10: MEET behind 60 DAYS").goes("tell(m../../..;p210wn;p321s;p222ene-;d3;) = 5", "meet(0, 1, 0) = 60",
                "meet(1, 0, 0) = 60", "day() = 2", "meet(0, 1, 0) = 59");
        says("Promise 10: MEET behind 61 DAYS; -9").goes("tell(m...../..##./...../##...;p2012w--s;p319-snnn;p506w;d3;) = 5",
                "meet(0, 1, 0) = -9", "day() = 2", "meet(0, 1, 0) = 60");
        says("Promise 10: MEET never; -9").goes("tell(p000;p008;) = 2", "meet(0, 1, 0) = -9", "meet(0, 1, 1) = -9",
                "count(11) = 0", "count(12) = 0");
        says("Promise 10: MEET behind the last DAY").goes("tell(p000ew;p001;) = 2", "days(60) = 1", "meet(0, 1, 0) = 1");
        says("Promise 10: -1 two").goes("meet(0, 1, 0) = -1", "tell(p000;p001;) = 2", "meet(0, 0, 0) = -1",
                "meet(1, 1, 1) = -1", "meet(0, 2, 0) = -1", "meet(2, 0, 0) = -1", "meet(-1, 0, 0) = -1",
                "meet(0, -1, 1) = -1", "meet(2, 2, 0) = -1", "count(11) = 8");
        says("Promise 10: -2").goes("tell(p000;p001;) = 2", "meet(0, 1, -1) = -2", "meet(0, 1, 2) = -2",
                "meet(0, 1, MAX) = -2", "meet(0, 1, MIN) = -2", "count(12) = 4");
        says("Promise 10: -1 ahead of -2").goes("tell(p000;p001;) = 2", "meet(0, 0, 2) = -1", "meet(0, 2, 2) = -1",
                "meet(2, 0, -1) = -1", "count(11) = 3", "count(12) = 0");
    }

    private static void pass() {
        says("Promise 10: PASS behind 1 DAY").goes("tell(" + LANE + "p000e;p001w;) = 3", "meet(0, 1, 1) = 1",
                "meet(1, 0, 1) = 1", "meet(0, 1, 0) = -9", "day() = 2", "meet(0, 1, 1) = -9");
        says("Promise 10: PASS behind 60 DAYS").goes("tell(m../../../..;p516new;p222-wnwns;p021w;d3;) = 5",
                "meet(0, 1, 1) = 60", "meet(1, 0, 1) = 60", "day() = 2", "meet(0, 1, 1) = 59");
        says("Promise 10: PASS behind 61 DAYS; -9").goes(
                "tell(m....#/.#.../..##./...#.;p315eee-we;p221sswwee;p127sw;d3;) = 5", "meet(0, 1, 1) = -9");
        says("Promise 10: PASS behind the last DAY").goes("tell(p110;p101;d0;) = 3", "days(60) = 2", "meet(0, 1, 1) = 1");
        says("Promise 10: who goes along does not PASS").goes("tell(p000es;p000es;) = 2", "meet(0, 1, 0) = 0",
                "meet(0, 1, 1) = -9", "tell(" + LANE + "p000e;p001e;) = 3", "meet(0, 1, 1) = -9");
        says("Promise 10: who stays does not change CELLS").goes("tell(p404;p404;) = 2", "meet(0, 1, 1) = -9");
    }

    private static void never() {
        says("Promise 11: now, too").goes("tell(p000eswn;) = 1", "never(0, 0) = {1 2 3 4 5 6 7 8}",
                "never(0, 1) = {2 3 4 5 6 7 8}", "never(0, 2) = {2 3 5 6 7 8}", "never(0, 3) = {2 5 6 7 8}",
                "never(0, 60) = {2 5 6 7 8}");
        says("Promise 11: no CELL is left").goes("tell(m../..;p000eswn;) = 2", "never(0, 2) = {2}", "never(0, 3) = {}",
                "never(0, 60) = {}");
        says("Promise 11: FREE CELLS").goes("tell(m.#/#.;p000;) = 2", "never(0, 0) = {3}", "tell(m.#/##;p000;) = 2",
                "never(0, 0) = {}", "never(0, 60) = {}");
        says("Promise 11: behind 60 DAYS").goes("tell(m....../....../......;p327-n;p209ess;p3110-;d3;) = 5",
                "never(1, 59) = {7 17}", "never(1, 60) = {7}");
        says("Promise 11: not behind 61 DAYS").goes("tell(m..../..../..../...#/...#;p2217we-s-;p1017;p123n-;d3;) = 5",
                "never(1, 60) = {2 3 6 7 11 12}", "behind(1, 60) = 16");
        says("Promise 11: the DAYS that were are gone").goes("tell(p000e;) = 1", "days(2) = 1", "never(0, 0) = {0 1 3 4 5 6 7 8}",
                "never(0, 60) = {0 1 3 4 5 6 7 8}");
        says("Promise 11: behind the last DAY").goes("tell(p003ew;) = 1", "days(60) = 1", "never(0, 0) = {0 1 2 4 5 6 7 8}",
                "never(0, 1) = {0 1 2 5 6 7 8}");
        says("Promise 11: -4; -6 60").goes("tell(p004;) = 1", "never(0, -1) = -4", "never(0, 61) = -6", "never(0, MIN) = -4",
                "never(0, MAX) = -6", "count(14) = 2", "count(16) = 2");
        says("Promise 11: -1 ahead of -4 and of -6").goes("never(0, 0) = -1", "never(0, -1) = -1", "never(0, 61) = -1",
                "tell(p004;) = 1", "never(1, 61) = -1", "never(-1, -1) = -1", "count(11) = 5");
    }

    private static void crowd() {
        says("Promise 12: nobody").goes("crowd(0, 0) = 0", "crowd(0, 1) = -9", "crowd(60, 0) = 0", "crowd(60, 1) = -9",
                "count(12) = 0");
        says("Promise 12: one").goes("tell(p008;) = 1", "crowd(0, 0) = 1", "crowd(0, 1) = 8");
        says("Promise 12: all").goes("tell(p008;p008;p008;p008;p008;) = 5", "crowd(0, 0) = 5", "crowd(0, 1) = 8");
        says("Promise 12: of several the least").goes("tell(p008;p004;p000;) = 3", "crowd(0, 0) = 1", "crowd(0, 1) = 0",
                "tell(p008;p004;) = 2", "crowd(0, 0) = 2", "crowd(0, 1) = 4");
        says("Promise 12: in the last CELL").goes("tell(m....../....../....../....../......;p0029;p0029;p000;) = 4",
                "crowd(0, 0) = 2", "crowd(0, 1) = 29");
        says("Promise 12: 0 .. 60").goes("tell(p000ew;p003ew;) = 2", "crowd(0, 1) = 0", "crowd(1, 1) = 1", "crowd(59, 1) = 1",
                "crowd(60, 1) = 0", "days(60) = 2", "crowd(59, 1) = 1", "crowd(60, 1) = 0");
        says("Promise 12: -4; -6 60").goes("crowd(-1, 0) = -4", "crowd(MIN, 1) = -4", "crowd(61, 0) = -6", "crowd(MAX, 1) = -6",
                "count(14) = 2", "count(16) = 2");
        says("Promise 12: -2").goes("crowd(0, -1) = -2", "crowd(0, 2) = -2", "crowd(60, MAX) = -2", "crowd(60, MIN) = -2",
                "count(12) = 4");
        says("Promise 12: -2 ahead of -4 and of -6").goes("crowd(-1, 2) = -2", "crowd(61, -1) = -2", "count(12) = 2",
                "count(14) = 0", "count(16) = 0");
    }
}
