/** Promises 9 to 12, 22 and 23: what will be, in mind; a row of cells judged. */
public final class AheadTest {
    private static final Due DUE = new Due("AheadTest");

    public static void main(String[] args) {
        behind();
        meeting();
        theLastDayAhead();
        nevers();
        crowds();
        rows();
        nothingChanges();
        DUE.end();
    }

    private static void behind() {
        SeenADayLate x = Due.on("m../..;p000ew;");
        DUE.is("now", x.behind(0, 0), 0);
        DUE.is("one day", x.behind(0, 1), 1);
        DUE.is("sixty", x.behind(0, 60), 0);
        DUE.is("below", x.behind(0, -1), -4);
        DUE.is("above", x.behind(0, 61), -6);
        DUE.is("nobody", x.behind(1, -1), -1);
        Due.days(x, 60);
        DUE.is("beyond the last day", x.behind(0, 59), 1);
        DUE.is("as if there were no end", x.behind(0, 60), 0);
        SeenADayLate y = Due.on("m....../......;p000eeeeee;p1011;d2;");
        int[] hunter = {11, 5, 4, 3, 2, 2, 3, 4, 5, 5};
        for (int n = 0; n < hunter.length; n++) {
            DUE.is("hunter behind " + n, y.behind(1, n), hunter[n]);
        }
    }

    private static void meeting() {
        SeenADayLate x = Due.on("m../..;p110;p101;d0;");
        DUE.is("they never meet", x.meet(0, 1, 0), -9);
        DUE.is("they pass", x.meet(0, 1, 1), 1);
        DUE.is("the other way", x.meet(1, 0, 1), 1);
        DUE.is("himself", x.meet(0, 0, 0), -1);
        DUE.is("nobody", x.meet(0, 2, 9), -1);
        DUE.is("nobody below", x.meet(-1, 0, 0), -1);
        DUE.is("other", x.meet(0, 1, 2), -2);
        DUE.is("other below", x.meet(0, 1, -1), -2);
        SeenADayLate y = Due.on("m....../......;p000eeeeee;p003;p003;");
        DUE.is("meet behind three", y.meet(0, 1, 0), 3);
        DUE.is("no passing", y.meet(0, 1, 1), -9);
        DUE.is("meet now", y.meet(1, 2, 0), 0);
        DUE.is("two who stay in one cell change nothing", y.meet(1, 2, 1), -9);
        SeenADayLate z = Due.on("m....../......;p000e;p005w;");
        DUE.is("pass behind three", z.meet(0, 1, 1), 3);
        DUE.is("the walls keep them apart", z.meet(0, 1, 0), -9);
        SeenADayLate late = Due.on("m../..;p002;p000----ns;");
        DUE.is("on the sixth day", late.meet(0, 1, 0), 6);
    }

    private static void theLastDayAhead() {
        SeenADayLate x = Due.on("m../../..;p210wn;p321s;p222ene-;d3;");
        DUE.is("meet behind sixty", x.meet(0, 1, 0), 60);
        SeenADayLate y = Due.on("m../../../..;p516new;p222-wnwns;p021w;d3;");
        DUE.is("pass behind sixty", y.meet(0, 1, 1), 60);
        x.day();
        DUE.is("a day later", x.meet(0, 1, 0), 59);
        y.day();
        DUE.is("a day later", y.meet(0, 1, 1), 59);
        SeenADayLate far = Due.on("m...../..##./...../##...;p2012w--s;p319-snnn;p506w;d3;");
        DUE.is("meet behind sixty-one is not told", far.meet(0, 1, 0), -9);
        far.day();
        DUE.is("meet behind sixty", far.meet(0, 1, 0), 60);
        SeenADayLate wide = Due.on("m....#/.#.../..##./...#.;p315eee-we;p221sswwee;p127sw;d3;");
        DUE.is("pass behind sixty-one is not told", wide.meet(0, 1, 1), -9);
        wide.day();
        DUE.is("pass behind sixty", wide.meet(0, 1, 1), 60);
    }

    private static void nevers() {
        SeenADayLate x = Due.on("m.../.../#..;p000es;");
        DUE.is("now alone", x.never(0, 0), 511 & ~Due.bits(0, 6));
        DUE.is("one day", x.never(0, 1), 511 & ~Due.bits(0, 1, 6));
        DUE.is("all days", x.never(0, 60), Due.bits(2, 3, 7));
        DUE.is("below", x.never(0, -1), -4);
        DUE.is("above", x.never(0, 61), -6);
        DUE.is("nobody", x.never(1, 61), -1);
        x.day();
        DUE.is("from now, not from ahead", x.never(0, 60), Due.bits(0, 2, 3, 7));
    }

    private static void crowds() {
        SeenADayLate x = Due.on("p000e;p001;p008;p008;p008;");
        DUE.is("three", x.crowd(0, 0), 3);
        DUE.is("where", x.crowd(0, 1), 8);
        SeenADayLate y = Due.on("p008n;p002;p000e;p001;");
        DUE.is("one each", y.crowd(0, 0), 1);
        DUE.is("the least", y.crowd(0, 1), 0);
        DUE.is("two", y.crowd(1, 0), 2);
        DUE.is("where two", y.crowd(1, 1), 1);
        DUE.is("three then", y.crowd(2, 0), 3);
        DUE.is("where three", y.crowd(2, 1), 2);
        DUE.is("at the end", y.crowd(60, 0), 3);
        DUE.is("other ahead of below", y.crowd(-1, 2), -2);
        DUE.is("below", y.crowd(-1, 0), -4);
        DUE.is("above", y.crowd(61, 1), -6);
        SeenADayLate none = new SeenADayLate();
        DUE.is("nobody", none.crowd(60, 0), 0);
        DUE.is("nowhere", none.crowd(60, 1), -9);
    }

    private static void rows() {
        SeenADayLate x = Due.on("m../..;p000ew;");
        DUE.is("none told", x.judge(0), -9);
        for (int i = 0; i < 12; i++) {
            DUE.is("row", x.row(i % 2), i + 1);
        }
        DUE.is("full", x.row(0), -6);
        DUE.is("full, below", x.row(-1), -4);
        DUE.is("nobody", x.judge(1), -1);
        DUE.is("it stays", x.count(8), 12);
        DUE.is("all so", x.judge(0), -9);
        DUE.is("none then", x.count(8), 0);
        DUE.is("cell 29", x.row(29), 1);
        DUE.is("cell 30", x.row(30), -6);
        DUE.is("below", x.row(-1), -4);
        DUE.is("not even the first", x.judge(0), 0);
        DUE.is("none then, too", x.count(8), 0);
        x.row(0);
        x.row(1);
        x.row(1);
        x.row(1);
        x.row(3);
        DUE.is("the first that is not so", x.judge(0), 2);
        Due.days(x, 60);
        x.row(0);
        x.row(1);
        x.row(2);
        DUE.is("from now, without an end", x.judge(0), 2);
    }

    private static void nothingChanges() {
        SeenADayLate x = Due.on("m....../......;p000eeeeee;p1011;d2;");
        x.behind(0, 60);
        x.meet(0, 1, 0);
        x.never(0, 60);
        x.crowd(60, 0);
        x.judge(0);
        DUE.is("day", x.count(4), 0);
        DUE.is("cell", x.person(0, 2), 0);
        DUE.is("was", x.was(0, 1), -6);
        DUE.is("sees", x.sees(1, 0), 0);
        x.day();
        DUE.is("a day later", x.sees(1, 0), 0);
        DUE.is("cell a day later", x.person(1, 2), 5);
    }
}
