/** Promises 4 to 8: people and their steps, the delay, days, where all were, who sees whom. */
public final class PeopleTest {
    private static final Due DUE = new Due("PeopleTest");

    public static void main(String[] args) {
        whatOneIs();
        walkers();
        huntersDogsReckoners();
        reckonersInAllDirections();
        hares();
        themselves();
        delays();
        days();
        lateComers();
        DUE.end();
    }

    private static void whatOneIs() {
        SeenADayLate x = Due.on("p001es;p190;p2908nesw-n;p334-;p414nnn;");
        int[][] want = {{0, 0, 1, 2}, {1, 9, 0, 0}, {2, 9, 8, 6}, {3, 3, 4, 1}, {4, 1, 4, 3}};
        for (int i = 0; i < want.length; i++) {
            for (int what = 0; what < 4; what++) {
                DUE.is("person(" + i + ", " + what + ")", x.person(i, what), want[i][what]);
            }
        }
        DUE.is("nobody", x.person(5, 0), -1);
        DUE.is("nobody below", x.person(-1, 9), -1);
        DUE.is("other what", x.person(0, 5), -2);
        DUE.is("other what below", x.person(4, -1), -2);
        DUE.is("reckoner", Due.on("p500;").person(0, 0), 5);
        DUE.is("refused -1", x.count(11), 2);
        DUE.is("refused -2", x.count(12), 2);
    }

    private static void walkers() {
        SeenADayLate x = Due.on("m.../.#./...;p001es;");
        DUE.is("first step", x.person(0, 4), 1);
        DUE.is("goes e", x.day(), 1);
        DUE.is("at", x.person(0, 2), 2);
        DUE.is("second step", x.person(0, 4), 2);
        DUE.is("goes s", x.day(), 1);
        DUE.is("at", x.person(0, 2), 5);
        DUE.is("no cell in the east", x.person(0, 4), 4);
        DUE.is("stays", x.day(), 0);
        DUE.is("at", x.person(0, 2), 5);
        DUE.is("the plan goes on by days", x.person(0, 4), 2);
        SeenADayLate hill = Due.on("m.../.#./...;p001s;");
        DUE.is("a hill in the south", hill.person(0, 4), 4);
        SeenADayLate all = Due.on("p004nesw-;");
        int[] path = {4, 1, 2, 5, 4, 4, 1};
        for (int i = 0; i < path.length; i++) {
            DUE.is("walk " + i, all.person(0, 2), path[i]);
            all.day();
        }
        DUE.is("without a plan", Due.on("p004;").person(0, 4), 4);
        DUE.is("still with a plan", Due.on("p404nnn;").person(0, 4), 4);
    }

    private static void huntersDogsReckoners() {
        SeenADayLate x = Due.on("p008;p100;");
        DUE.is("of several steps the first", x.person(1, 4), 1);
        DUE.is("a hill in his way", Due.on("m.../#.#/...;p007;p101;").person(1, 4), 2);
        DUE.is("the way is taken hills aside", Due.on("m.../.#./...;p007;p101;").person(1, 4), 4);
        SeenADayLate y = Due.on("m....../......;p000eeeeee;");
        Due.days(y, 3);
        DUE.is("three come", Due.tell(y, "p3402;p1402;p5402;"), 3);
        int[][] want = {{4, 1, 1}, {3, 4, 1}, {3, 3, 1}, {3, 3, 3}};
        for (int lag = 0; lag <= 3; lag++) {
            y.delay(lag);
            for (int i = 0; i < 3; i++) {
                DUE.is("delay " + lag + " person " + (i + 1), y.person(i + 1, 4), want[lag][i]);
            }
        }
    }

    private static void reckonersInAllDirections() {
        String[] plans = {"n", "e", "s", "w"};
        int[] starts = {21, 12, 3, 17};
        for (int i = 0; i < plans.length; i++) {
            SeenADayLate x = Due.on("m....../....../....../....../......;p00" + starts[i] + plans[i] + ";d1;");
            Due.days(x, 2);
            Due.tell(x, "p30" + x.was(0, 1) + ";p50" + x.was(0, 1) + ";");
            DUE.is("a dog goes back, plan " + plans[i], x.person(1, 4), (i + 2) % 4);
            DUE.is("a reckoner goes on, plan " + plans[i], x.person(2, 4), i);
        }
        SeenADayLate edge = Due.on("m.../...;p000e;d3;");
        Due.days(edge, 4);
        Due.tell(edge, "p502;p505;");
        DUE.is("beyond the edge is at the edge", edge.person(1, 4), 4);
        DUE.is("beyond the edge is at the edge, from below", edge.person(2, 4), 0);
    }

    private static void hares() {
        DUE.is("flees", Due.on("p004;p2001;").person(1, 4), 1);
        DUE.is("of several the first", Due.on("p004;p204;").person(1, 4), 0);
        DUE.is("from the nearest", Due.on("m....../......;p000;p005;p202;").person(2, 4), 2);
        DUE.is("stays, where it is best", Due.on("p000;p208;").person(1, 4), 4);
        SeenADayLate x = Due.on("m....../......;p000eeeeee;p202;");
        Due.days(x, 2);
        x.delay(0);
        int near = x.person(1, 4);
        x.delay(3);
        DUE.is("flees from where it sees", x.person(1, 4), near);
    }

    private static void themselves() {
        DUE.is("hunter alone", Due.on("p174e;").person(0, 4), 1);
        DUE.is("hunter alone without a plan", Due.on("p104;").person(0, 4), 4);
        DUE.is("dog of himself", Due.on("p000;p314w;").person(1, 4), 3);
        DUE.is("reckoner of himself modulo", Due.on("p000;p594s;").person(1, 4), 2);
        DUE.is("hare alone", Due.on("p204w;").person(0, 4), 3);
        DUE.is("hare alone without a plan", Due.on("p204;").person(0, 4), 4);
    }

    private static void delays() {
        SeenADayLate x = Due.on("m....../......;p000eeeeee;p4311;");
        DUE.is("it was", x.delay(3), 1);
        DUE.is("it was", x.delay(0), 3);
        DUE.is("below", x.delay(-1), -4);
        DUE.is("above", x.delay(4), -6);
        DUE.is("is still", x.count(5), 0);
        int[][] seen = {{0, 0, 0, 0}, {1, 0, 0, 0}, {2, 1, 0, 0}, {3, 2, 1, 0}, {4, 3, 2, 1}};
        for (int day = 0; day < seen.length; day++) {
            for (int lag = 0; lag <= 3; lag++) {
                x.delay(lag);
                DUE.is("day " + day + " delay " + lag, x.sees(1, 0), seen[day][lag]);
                DUE.is("he who stays", x.sees(0, 1), 11);
            }
            x.day();
        }
        DUE.is("himself", x.sees(0, 0), -1);
        DUE.is("nobody sees", x.sees(2, 0), -1);
        DUE.is("sees nobody", x.sees(0, 2), -1);
        DUE.is("below nobody", x.sees(-1, 0), -1);
    }

    private static void days() {
        SeenADayLate x = Due.on("m../..;p000ew;p100;p403;d0;");
        DUE.is("all at once", x.day(), 1);
        DUE.is("walker", x.person(0, 2), 1);
        DUE.is("hunter went to where he was", x.person(1, 2), 0);
        DUE.is("two change", x.day(), 2);
        DUE.is("walker", x.person(0, 2), 0);
        DUE.is("hunter", x.person(1, 2), 1);
        DUE.is("day", x.count(4), 2);
        for (int i = 3; i <= 60; i++) {
            DUE.is("day " + i, x.day(), 2);
        }
        DUE.is("no day more", x.day(), -6);
        DUE.is("day", x.count(4), 60);
        DUE.is("refused", x.count(16), 1);
        DUE.is("was", x.was(0, 59), 1);
        DUE.is("was now", x.was(0, 60), 0);
        DUE.is("was at first", x.was(2, 0), 3);
        DUE.is("was above", x.was(0, 61), -6);
        DUE.is("was below", x.was(0, -1), -4);
        DUE.is("was of nobody", x.was(3, -1), -1);
        DUE.is("a step behind the last day", x.person(0, 4), 1);
        DUE.is("nobody changes", new SeenADayLate().day(), 0);
    }

    private static void lateComers() {
        SeenADayLate x = Due.on("m....../......;p000eeeeee;d3;");
        Due.days(x, 4);
        Due.tell(x, "p0011nesw;");
        DUE.is("was where he came", x.was(1, 0), 11);
        DUE.is("seen where he came", x.sees(0, 1), 11);
        DUE.is("his plan goes by the moor's days", x.person(1, 4), 0);
        x.day();
        DUE.is("went", x.was(1, 5), 5);
        DUE.is("came", x.was(1, 4), 11);
        DUE.is("seen where he came still", x.sees(0, 1), 11);
        Due.days(x, 3);
        DUE.is("seen where he went", x.sees(0, 1), 5);
        Due.tell(x, "p007ns;");
        DUE.is("the second of a plan on day 9", x.was(2, 8), 7);
        x.day();
        DUE.is("day 8 is even", x.was(2, 9), 1);
    }
}
