import java.util.ArrayList;
import java.util.LinkedHashMap;
import java.util.List;
import java.util.Map;

/**
 * REFUSALS: the call answers the first number that fits; nothing changes but how many there were.
 * Each refused call is made on one of two objects with the same past; then both are looked at in every way.
 */
public final class RefusalsTest {
    private static final Due DUE = new Due("RefusalsTest");
    private static final int EYES = 6;
    private static final int LAST_REFUSAL = 6;

    /** By promise: the numbers with which it refuses, in the order in which it tells them. */
    private static final Map<String, List<Integer>> TOLD = told();

    public static void main(String[] args) {
        changesWouldBeSeen();
        inEmptyState();
        inTheMidst();
        inFullState();
        onHillsAlone();
        faultsChangeNothing();
        for (Map.Entry<String, List<Integer>> one : TOLD.entrySet()) {
            DUE.holds(one.getKey() + " was refused with each number but " + one.getValue(), one.getValue().isEmpty());
        }
        DUE.end();
    }

    private static Map<String, List<Integer>> told() {
        Map<String, List<Integer>> told = new LinkedHashMap<>();
        String[] rows = {"feed -4 -6", "person -1 -2", "delay -4 -6", "day -6", "was -1 -4 -6", "sees -1", "behind -1 -4 -6",
            "meet -1 -2", "never -1 -4 -6", "crowd -2 -4 -6", "reach -1 -4 -6", "can -1", "ways -1 -4 -6", "sight -4 -1 -6",
            "fits -1", "guess -1 -4 -6", "game -1 -2", "watchers -4 -6 -2", "row -4 -6", "judge -1", "seeds -1 -4 -6 -2",
            "restore -3"};
        for (String row : rows) {
            List<Integer> numbers = new ArrayList<>();
            String[] parts = row.split(" ");
            for (int i = 1; i < parts.length; i++) {
                numbers.add(Integer.parseInt(parts[i]));
            }
            told.put(parts[0], numbers);
        }
        return told;
    }

    /* The states. */

    private static List<String> midst() {
        return new ArrayList<>(List.of("tell(m..../.##./....;p000eess--;p1011;p208w;d2;)", "days(3)", "image()", "days(2)",
                "delay(3)", "tell(p532-;)", "sight(0, 0)", "sight(3, 3)", "sight(6, 7)", "row(2)", "row(2)", "row(3)"));
    }

    private static List<String> midstOfLetters() {
        List<String> past = midst();
        for (char letter : "m.#/..;p003e".toCharArray()) {
            past.add("feed(" + (int) letter + ")");
        }
        return past;
    }

    private static List<String> full() {
        List<String> past = new ArrayList<>(List.of("tell(m.../.#./...;p000ew;p108;p202;p306s;p507;d3;)", "days(30)", "image()",
                "days(30)"));
        for (char letter : "m....../....../....../....../......;p000nesw-n;p111nesw-n;p222nesw-n;p5329esw--;".toCharArray()) {
            past.add("feed(" + (int) letter + ")");
        }
        for (int i = 0; i < 6; i++) {
            past.add("sight(" + new int[] {0, 1, 2, 4, 5, 10}[i] + ", " + new int[] {0, 1, 2, 8, 7, 6}[i] + ")");
        }
        for (int i = 0; i < 12; i++) {
            past.add("row(" + i % 2 + ")");
        }
        return past;
    }

    private static List<String> hills() {
        return List.of("tell(p404;p000es;)", "days(4)", "image()", "tell(m##/##;)");
    }

    /** A row that is wrong at once, or sights that no way fits, would hide whether more of them came. */
    private static void changesWouldBeSeen() {
        DUE.is("the row in the midst is as it will be", answerTo(midstOfLetters(), "judge(0)"), -9);
        DUE.is("the full row is as it will be", answerTo(full(), "judge(0)"), -9);
        DUE.is("sights in the midst fit", answerTo(midstOfLetters(), "fits(0)"), 6);
        DUE.is("all six sights fit", answerTo(full(), "fits(0)"), 45);
        DUE.is("the letters in the midst lack one", with(midstOfLetters(), "feed(59)").ask("moor()"), 2);
        DUE.is("the full letters are a moor", answerTo(full(), "moor()"), 5);
    }

    /* What is refused in them: a call and all numbers that fit, in the order in which its promise tells them. */

    private static void inEmptyState() {
        List<String> past = List.of();
        refused(past, "feed(-1) -4", "feed(256) -6", "feed(MIN) -4", "feed(MAX) -6", "person(0, 0) -1", "person(0, 5) -1 -2",
                "delay(-1) -4", "delay(4) -6", "was(0, 0) -1", "was(0, -1) -1 -4", "was(0, 1) -1 -6", "sees(0, 1) -1",
                "sees(0, 0) -1", "behind(0, 0) -1", "behind(0, -1) -1 -4", "behind(0, 61) -1 -6", "meet(0, 1, 0) -1",
                "meet(0, 1, 2) -1 -2", "never(0, 0) -1", "never(0, -1) -1 -4", "never(0, 61) -1 -6", "crowd(0, 2) -2",
                "crowd(-1, 0) -4", "crowd(61, 0) -6", "crowd(-1, 2) -2 -4", "crowd(61, -1) -2 -6", "can(0, 1) -1",
                "guess(0, 1) -6", "guess(0, -1) -4", "judge(0) -1", "restore() -3");
    }

    private static void inTheMidst() {
        List<String> past = midstOfLetters();
        refused(past, "feed(-1) -4", "feed(256) -6", "person(4, 0) -1", "person(-1, 0) -1", "person(0, 5) -2", "person(0, -1) -2",
                "person(4, 5) -1 -2", "delay(-1) -4", "delay(4) -6", "was(4, 0) -1", "was(0, -1) -4", "was(0, 6) -6",
                "was(4, -1) -1 -4", "was(4, 6) -1 -6", "sees(0, 0) -1", "sees(0, 4) -1", "sees(4, 0) -1", "sees(4, 4) -1",
                "behind(4, 0) -1", "behind(0, -1) -4", "behind(0, 61) -6", "behind(-1, -1) -1 -4", "behind(4, 61) -1 -6",
                "meet(0, 0, 0) -1", "meet(0, 4, 1) -1", "meet(0, 1, 2) -2", "meet(0, 0, 2) -1 -2", "meet(4, 0, -1) -1 -2",
                "never(4, 0) -1", "never(0, -1) -4", "never(0, 61) -6", "never(4, -1) -1 -4", "never(4, 61) -1 -6",
                "crowd(0, 2) -2", "crowd(-1, 0) -4", "crowd(61, 0) -6", "crowd(-1, 2) -2 -4", "crowd(61, 2) -2 -6");
        refused(past, "reach(12, 0) -1", "reach(5, 0) -1", "reach(0, -1) -4", "reach(0, 31) -6", "reach(5, -1) -1 -4",
                "reach(12, 31) -1 -6", "can(0, 0) -1", "can(0, 4) -1", "can(4, 0) -1", "ways(5, 0, 0) -1", "ways(0, 5, 0) -1",
                "ways(0, 12, 0) -1", "ways(0, 0, -1) -4", "ways(0, 0, 11) -6", "ways(5, 0, -1) -1 -4", "ways(0, 12, 11) -1 -6",
                "sight(-1, 0) -4", "sight(0, 5) -1", "sight(0, 12) -1", "sight(11, 0) -6", "sight(-1, 5) -4 -1",
                "sight(11, 12) -1 -6", "fits(5) -1", "fits(12) -1", "fits(-1) -1", "guess(5, 0) -1", "guess(0, -1) -4",
                "guess(0, 7) -6", "guess(5, -1) -1 -4", "guess(12, 7) -1 -6", "game(5, 0, 0) -1", "game(0, 12, 0) -1",
                "game(0, 3, 2) -2", "game(5, 0, 2) -1 -2", "game(0, 5, -1) -1 -2", "watchers(0, 0) -4", "watchers(6, 0) -6",
                "watchers(1, 2) -2", "watchers(0, 2) -4 -2", "watchers(6, 2) -6 -2", "row(-1) -4", "row(30) -6", "judge(4) -1",
                "judge(-1) -1", "seeds(5, 1, 0, 0) -1", "seeds(0, 0, 0, 0) -4", "seeds(0, 61, 0, 0) -6", "seeds(0, 1, 0, 2) -2",
                "seeds(5, 0, 0, 0) -1 -4", "seeds(12, 61, 0, 0) -1 -6", "seeds(5, 1, 0, 2) -1 -2", "seeds(0, 0, 0, 2) -4 -2",
                "seeds(0, 61, 0, 2) -6 -2", "seeds(5, 0, 0, 2) -1 -4 -2", "seeds(12, 61, 0, 2) -1 -6 -2");
    }

    private static void inFullState() {
        refused(full(), "feed(100) -6", "feed(256) -6", "feed(-1) -4 -6", "day() -6", "was(0, 61) -6", "was(5, 61) -1 -6",
                "person(5, 0) -1", "person(5, 5) -1 -2", "sight(0, 0) -6", "sight(11, 0) -6", "sight(-1, 0) -4 -6",
                "sight(0, 4) -1 -6", "sight(11, 9) -1 -6", "sight(-1, 9) -4 -1 -6", "guess(0, 11) -6", "row(0) -6",
                "row(30) -6", "row(-1) -4 -6", "judge(5) -1", "behind(0, 61) -6", "delay(4) -6", "delay(-1) -4");
    }

    private static void onHillsAlone() {
        refused(hills(), "person(0, 0) -1", "reach(0, 0) -1", "reach(4, 0) -1", "ways(0, 0, 0) -1", "sight(0, 0) -1", "fits(0) -1",
                "guess(0, 0) -1", "game(0, 0, 0) -1", "seeds(0, 1, 0, 0) -1", "watchers(0, 0) -4", "watchers(1, 2) -2");
    }

    private static void refused(List<String> past, String... rows) {
        List<List<Integer>> before = seenByAll(past, "");
        for (String row : rows) {
            int end = row.indexOf(')') + 1;
            String call = row.substring(0, end);
            String[] fitting = row.substring(end + 1).split(" ");
            int due = Integer.parseInt(fitting[0]);
            DUE.is("the first that fits, " + row, answerTo(past, call), due);
            DUE.holds("counted once, " + row, countedOnce(past, call, due));
            DUE.holds("nothing changes, " + row, before.equals(seenByAll(past, call)));
            TOLD.get(call.substring(0, call.indexOf('('))).remove(Integer.valueOf(due));
        }
    }

    /** What a fault leaves is what there is without its letters. */
    private static void faultsChangeNothing() {
        String[] faults = {"x", "m", "m##/##;d0;p000", "d0;m../..;p000;p004;", "p404;p404;", "p600;", "d4;", "m../..;d0;p001;x"};
        for (String fault : faults) {
            DUE.holds("a fault, " + fault, answerTo(midst(), "tell(" + fault + ")") <= -1000);
            DUE.holds("it changes nothing, " + fault, seenByAll(midst(), "").equals(seenByAll(midst(), "tell(" + fault + ")")));
            DUE.holds("it is not counted, " + fault, refusalsBehind(midst(), "tell(" + fault + ")").equals(
                    refusalsBehind(midst(), "")));
        }
    }

    /* Looking at objects. */

    private static Run with(List<String> past, String call) {
        Run run = new Run(DUE, "REFUSALS");
        for (String one : past) {
            run.ask(one);
        }
        if (!call.isEmpty()) {
            run.ask(call);
        }
        return run;
    }

    private static int answerTo(List<String> past, String call) {
        return with(past, "").ask(call);
    }

    private static List<Integer> refusalsBehind(List<String> past, String call) {
        Run run = with(past, call);
        List<Integer> counts = new ArrayList<>();
        for (int i = 1; i <= LAST_REFUSAL; i++) {
            counts.add(run.ask("count(" + (10 + i) + ")"));
        }
        return counts;
    }

    private static boolean countedOnce(List<String> past, String call, int number) {
        List<Integer> counts = refusalsBehind(past, "");
        counts.set(-number - 1, counts.get(-number - 1) + 1);
        return counts.equals(refusalsBehind(past, call));
    }

    private static List<List<Integer>> seenByAll(List<String> past, String call) {
        List<List<Integer>> all = new ArrayList<>();
        for (int eye = 0; eye < EYES; eye++) {
            List<Integer> seen = new ArrayList<>();
            look(with(past, call), eye, seen);
            all.add(seen);
        }
        return all;
    }

    private static void look(Run run, int eye, List<Integer> seen) {
        switch (eye) {
            case 0:
                lookAtPeople(run, seen);
                break;
            case 1:
                lookAhead(run, seen);
                break;
            case 2:
                lookAtWalks(run, seen);
                break;
            case 3:
                ask(run, seen, "judge(0)", "count(8)", "restore()");
                lookAtPeople(run, seen);
                break;
            case 4:
                ask(run, seen, "feed(59)", "moor()");
                lookAtPeople(run, seen);
                break;
            default:
                ask(run, seen, "restore()", "day()", "restore()");
                lookAhead(run, seen);
                break;
        }
    }

    private static void ask(Run run, List<Integer> seen, String... calls) {
        for (String call : calls) {
            seen.add(run.ask(call));
        }
    }

    private static void lookAtPeople(Run run, List<Integer> seen) {
        for (int what = 0; what <= 8; what++) {
            ask(run, seen, "count(" + what + ")");
        }
        int day = run.ask("count(4)");
        for (int i = 0; i < run.ask("count(2)"); i++) {
            for (int what = 0; what <= 4; what++) {
                ask(run, seen, "person(" + i + ", " + what + ")");
            }
            for (int back = 0; back <= Math.min(4, day); back++) {
                ask(run, seen, "was(" + i + ", " + (day - back) + ")", "was(" + i + ", " + back + ")");
            }
            ask(run, seen, "sees(" + i + ", 0)", "sees(0, " + i + ")", "can(" + i + ", 0)");
        }
    }

    private static void lookAhead(Run run, List<Integer> seen) {
        ask(run, seen, "crowd(0, 0)", "crowd(0, 1)", "crowd(7, 0)", "crowd(60, 1)");
        int many = run.ask("count(2)");
        for (int i = 0; i < many; i++) {
            for (int n : new int[] {0, 1, 2, 3, 7, 60}) {
                ask(run, seen, "behind(" + i + ", " + n + ")", "never(" + i + ", " + n + ")");
            }
            for (int j = 0; j < i; j++) {
                ask(run, seen, "meet(" + i + ", " + j + ", 0)", "meet(" + i + ", " + j + ", 1)");
            }
        }
    }

    private static void lookAtWalks(Run run, List<Integer> seen) {
        for (int cell = 0; cell < 12; cell++) {
            ask(run, seen, "reach(" + cell + ", 1)", "fits(" + cell + ")", "ways(" + cell + ", 0, 10)");
        }
        for (int k = 0; k <= 10; k++) {
            ask(run, seen, "guess(0, " + k + ")");
        }
        ask(run, seen, "game(0, 1, 0)", "game(0, 2, 1)", "watchers(1, 0)", "watchers(5, 1)", "seeds(0, 60, 1, 0)", "forget()");
    }
}
