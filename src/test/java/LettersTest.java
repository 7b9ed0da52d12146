/** Promises 1 to 3 and 27: a new object, the letters, the moors that they tell, what is counted. */
public final class LettersTest {
    private static final Due DUE = new Due("LettersTest");

    public static void main(String[] args) {
        newObject();
        feeding();
        goodMoors();
        faultsOfForm();
        faultsOfSense();
        allOrNothing();
        whatStaysOnANewMoor();
        counting();
        DUE.end();
    }

    private static void newObject() {
        SeenADayLate x = new SeenADayLate();
        int[] want = {3, 3, 0, 0, 0, 1, 0, 0, 0, -9, -9, 0, 0, 0, 0, 0, 0, -9};
        for (int i = 0; i < want.length; i++) {
            DUE.is("new count(" + i + ")", x.count(i), want[i]);
        }
        DUE.is("new restore", x.restore(), -3);
        DUE.is("new all free", x.reach(0, 30), 511);
        DUE.is("new nobody", x.person(0, 0), -1);
        DUE.is("new forget", x.forget(), 0);
    }

    private static void feeding() {
        SeenADayLate x = new SeenADayLate();
        DUE.is("feed below", x.feed(-1), -4);
        DUE.is("feed above", x.feed(256), -6);
        DUE.is("feed least int", x.feed(Integer.MIN_VALUE), -4);
        DUE.is("feed greatest int", x.feed(Integer.MAX_VALUE), -6);
        DUE.is("feed least", x.feed(0), 1);
        DUE.is("feed greatest", x.feed(255), 2);
        for (int i = 3; i <= 80; i++) {
            DUE.is("feed " + i, x.feed('x'), i);
        }
        DUE.is("feed full", x.feed('x'), -6);
        DUE.is("feed full, below", x.feed(-1), -4);
        DUE.is("letters", x.count(7), 80);
        DUE.is("-4 counted", x.count(14), 3);
        DUE.is("-6 counted", x.count(16), 3);
        DUE.is("letter 0 opens nothing", x.moor(), -1000);
        DUE.is("no letters then", x.count(7), 0);
        DUE.is("feed anew", x.feed('d'), 1);
    }

    private static void tells(String text, int want) {
        SeenADayLate x = new SeenADayLate();
        DUE.is("moor of " + text, Due.tell(x, text), want);
        DUE.is("letters behind " + text, x.count(7), 0);
        for (int i = 11; i <= 16; i++) {
            DUE.is("refusals " + i + " behind " + text, x.count(i), 0);
        }
    }

    private static void goodMoors() {
        tells("m../..;", 1);
        tells("m....../....../....../....../......;", 1);
        tells("m../../../../..;", 1);
        tells("m##/##;", 1);
        tells("d0;", 1);
        tells("d3;", 1);
        tells("p000;", 1);
        tells("p0000;", 1);
        tells("p598nesw-n;", 1);
        tells("p0008-;", 1);
        tells("d1;m../..;p003;m.../...;d2;", 5);
        tells("p000;p000;p000;p000;p000;", 5);
        tells("p000;p000;p000;p000;p000;m../..;p000;", 7);
    }

    private static void faultsOfForm() {
        tells("", -1000);
        tells("x", -1000);
        tells(";", -1000);
        tells("M../..;", -1000);
        tells(" m../..;", -1000);
        tells("m", -1001);
        tells("m;", -1001);
        tells("m/", -1001);
        tells("m.", -1002);
        tells("m.;", -1002);
        tells("m./..;", -1002);
        tells("m..", -1003);
        tells("m..;", -1003);
        tells("m../", -1004);
        tells("m../;", -1004);
        tells("m..//", -1004);
        tells("m../.", -1005);
        tells("m../.;", -1005);
        tells("m../.#.;", -1006);
        tells("m../..", -1006);
        tells("m../../;", -1007);
        tells("m.......", -1007);
        tells("m.../..;", -1007);
        tells("m.../../...;", -1007);
        tells("m../../../../../..;", -1015);
        tells("m../../../../..", -1015);
        tells("m../..;;", -1007);
        tells("d", -1001);
        tells("d;", -1001);
        tells("dn", -1001);
        tells("d1", -1002);
        tells("d12;", -1002);
        tells("p", -1001);
        tells("p;", -1001);
        tells("p0;", -1002);
        tells("p00;", -1003);
        tells("p00n;", -1003);
        tells("p000", -1004);
        tells("p00000;", -1005);
        tells("p000n0;", -1005);
        tells("p000x;", -1004);
        tells("p000N;", -1004);
        tells("p000nnnnnn", -1010);
        tells("p000nnnnnnn;", -1010);
        tells("p0000nnnnnnn;", -1011);
        tells("d1;d", -1004);
        tells("d1; d1;", -1003);
        tells("d1;".repeat(26) + "d1", -1080);
        tells("d9;x", -1003);
        tells("p999;d1", -1007);
    }

    private static void faultsOfSense() {
        tells("d4;", -2000);
        tells("d1;d9;d9;", -2003);
        tells("p600;", -2000);
        tells("p900;", -2000);
        tells("p009;", -2000);
        tells("p0099;", -2000);
        tells("m../..;p004;", -2007);
        tells("m.#/..;p001;", -2007);
        tells("m.#/..;p002;p001;", -2012);
        tells("p008;m../..;p008;", -2012);
        tells("p000;p000;p000;p000;p000;p000;", -2025);
    }

    private static void allOrNothing() {
        SeenADayLate x = Due.on("m..#/...;p001e;d2;");
        x.day();
        DUE.is("fault behind a moor", Due.tell(x, "d0;m../..;p000;p009;"), -2015);
        DUE.is("rows stay", x.count(0), 2);
        DUE.is("columns stay", x.count(1), 3);
        DUE.is("people stay", x.count(2), 1);
        DUE.is("hills stay", x.count(3), 1);
        DUE.is("day stays", x.count(4), 1);
        DUE.is("delay stays", x.count(5), 2);
        DUE.is("cell stays", x.person(0, 2), 1);
        DUE.is("one more comes", Due.tell(x, "p4305;"), 1);
        DUE.is("people", x.count(2), 2);
        DUE.is("day still", x.count(4), 1);
        DUE.is("no room for four more", Due.tell(x, "p000;p000;p000;p000;"), -2015);
        DUE.is("people still", x.count(2), 2);
    }

    private static void whatStaysOnANewMoor() {
        SeenADayLate x = Due.on("p000;d3;");
        Due.days(x, 2);
        x.sight(4, 8);
        x.row(7);
        DUE.is("new moor", Due.tell(x, "m.#/##/..;"), 1);
        int[] want = {3, 2, 0, 3, 0, 3, 1, 0, 1};
        for (int i = 0; i < want.length; i++) {
            DUE.is("count(" + i + ") on a new moor", x.count(i), want[i]);
        }
        DUE.is("a sight where no cell is", x.fits(0), 0);
        DUE.is("a guess of it", x.guess(0, 2), -9);
    }

    private static void counting() {
        SeenADayLate x = new SeenADayLate();
        x.was(0, 0);
        x.sees(0, 1);
        x.crowd(0, 7);
        x.restore();
        x.delay(-1);
        x.delay(-1);
        x.delay(4);
        int[] want = {2, 1, 1, 2, 0, 1};
        for (int i = 0; i < want.length; i++) {
            DUE.is("count(" + (11 + i) + ")", x.count(11 + i), want[i]);
        }
        int[] none = {-1, 9, 10, 17, Integer.MAX_VALUE, Integer.MIN_VALUE};
        for (int what : none) {
            DUE.is("count(" + what + ")", x.count(what), -9);
        }
        DUE.is("-9 is no refusal", x.count(12), 1);
    }
}
