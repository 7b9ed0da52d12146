import java.util.ArrayList;
import java.util.HashMap;
import java.util.HashSet;
import java.util.List;
import java.util.Map;
import java.util.Set;
import java.util.regex.Matcher;
import java.util.regex.Pattern;

/**
 * The document read a second time, as plainly and as slowly as can be, to hold the class against:
 * maps and regular expressions instead of rows and bits, counts by trying, the game by values.
 */
final class Model {
    private static final int[] DOWN = {-1, 0, 1, 0, 0};
    private static final int[] RIGHT = {0, 1, 0, -1, 0};
    private static final Pattern FORM = Pattern.compile(form());

    private static final class One {
        int kind;
        int figure;
        String plan;
        int cameTo;
        int cameOn;
        Map<Integer, Integer> track = new HashMap<>();

        One copy() {
            One c = new One();
            c.kind = kind;
            c.figure = figure;
            c.plan = plan;
            c.cameTo = cameTo;
            c.cameOn = cameOn;
            c.track = new HashMap<>(track);
            return c;
        }

        int on(int day) {
            return day < cameOn ? cameTo : track.get(day);
        }
    }

    private static final class State {
        int rows = 3;
        int cols = 3;
        Set<Integer> hills = new HashSet<>();
        int delay = 1;
        int day = 0;
        List<One> people = new ArrayList<>();

        State copy() {
            State c = new State();
            c.rows = rows;
            c.cols = cols;
            c.hills = new HashSet<>(hills);
            c.delay = delay;
            c.day = day;
            for (One one : people) {
                c.people.add(one.copy());
            }
            return c;
        }

        boolean free(int cell) {
            return cell >= 0 && cell < rows * cols && !hills.contains(cell);
        }

        boolean may(int cell, int step) {
            int r = cell / cols + DOWN[step];
            int c = cell % cols + RIGHT[step];
            return r >= 0 && r < rows && c >= 0 && c < cols && free(r * cols + c);
        }

        int to(int cell, int step) {
            return cell + DOWN[step] * cols + RIGHT[step];
        }

        int way(int a, int b) {
            return Math.abs(a / cols - b / cols) + Math.abs(a % cols - b % cols);
        }

        int stepOf(int i) {
            One me = people.get(i);
            int at = me.on(day);
            if (me.kind == 4) {
                return 4;
            }
            int prey = me.figure % people.size();
            boolean walks = me.kind == 0 || me.kind == 2 && people.size() == 1 || me.kind % 2 == 1 && prey == i;
            if (walks) {
                int step = me.plan.isEmpty() ? 4 : "nesw-".indexOf(me.plan.charAt(day % me.plan.length()));
                return may(at, step) ? step : 4;
            }
            int best = -1;
            int bestWorth = 0;
            for (int step = 4; step >= 0; step--) {
                if (may(at, step)) {
                    int worth = me.kind == 2 ? safety(i, to(at, step)) : -wayTo(me.kind, people.get(prey), to(at, step));
                    if (best < 0 || worth >= bestWorth) {
                        best = step;
                        bestWorth = worth;
                    }
                }
            }
            return best;
        }

        private int safety(int i, int cell) {
            int least = 99;
            for (int j = 0; j < people.size(); j++) {
                if (j != i) {
                    least = Math.min(least, way(cell, people.get(j).on(day - delay)));
                }
            }
            return least;
        }

        private int wayTo(int kind, One prey, int cell) {
            int seen = prey.on(day - delay);
            int ahead = prey.on(day - delay - 1);
            if (kind == 1) {
                return way(cell, seen);
            }
            if (kind == 3) {
                return way(cell, ahead);
            }
            int r = seen / cols;
            int c = seen % cols;
            for (int i = 0; i < delay; i++) {
                r = Math.min(rows - 1, Math.max(0, r + seen / cols - ahead / cols));
                c = Math.min(cols - 1, Math.max(0, c + seen % cols - ahead % cols));
            }
            return way(cell, r * cols + c);
        }

        int goDay() {
            int changed = 0;
            List<Integer> cells = new ArrayList<>();
            for (int i = 0; i < people.size(); i++) {
                int step = stepOf(i);
                cells.add(to(people.get(i).on(day), step));
                changed += step == 4 ? 0 : 1;
            }
            day++;
            for (int i = 0; i < people.size(); i++) {
                people.get(i).track.put(day, cells.get(i));
            }
            return changed;
        }

        State behind(int n) {
            State c = copy();
            for (int i = 0; i < n; i++) {
                c.goDay();
            }
            return c;
        }
    }

    private State s = new State();
    private State kept = null;
    private String letters = "";
    private final List<int[]> sights = new ArrayList<>();
    private final List<Integer> row = new ArrayList<>();
    private final Map<Integer, Integer> refusals = new HashMap<>();

    private static String form() {
        StringBuilder rows = new StringBuilder();
        for (int w = 2; w <= 6; w++) {
            rows.append(w == 2 ? "" : "|").append("m[.#]{" + w + "}(?:/[.#]{" + w + "}){1,4};");
        }
        return "(?:" + rows + "|p[0-9][0-9][0-9]{1,2}[nesw-]{0,6};|d[0-9];)+";
    }

    /** Checks in order: pairs of a condition and the number with which it refuses; 0 if none holds. */
    private int first(Object... checks) {
        for (int i = 0; i < checks.length; i += 2) {
            if ((Boolean) checks[i]) {
                refusals.merge((Integer) checks[i + 1], 1, Integer::sum);
                return (Integer) checks[i + 1];
            }
        }
        return 0;
    }

    private boolean nobody(int p) {
        return p < 0 || p >= s.people.size();
    }

    int feed(int letter) {
        int no = first(letter < 0, -4, letter > 255 || letters.length() == 80, -6);
        if (no == 0) {
            letters += (char) letter;
        }
        return no != 0 ? no : letters.length();
    }

    int moor() {
        String text = letters;
        letters = "";
        for (int i = 1; i <= text.length(); i++) {
            Matcher m = FORM.matcher(text.substring(0, i));
            if (!m.matches() && !m.hitEnd()) {
                return -1000 - (i - 1);
            }
        }
        if (!FORM.matcher(text).matches()) {
            return -1000 - text.length();
        }
        State t = s.copy();
        int place = 0;
        String[] parts = text.split(";");
        for (String part : parts) {
            if (!tell(t, part)) {
                return -2000 - place;
            }
            place += part.length() + 1;
        }
        s = t;
        return parts.length;
    }

    private static boolean tell(State t, String part) {
        if (part.charAt(0) == 'd') {
            t.delay = part.charAt(1) - '0';
            return t.delay <= 3;
        }
        if (part.charAt(0) == 'm') {
            String[] lines = part.substring(1).split("/");
            t.rows = lines.length;
            t.cols = lines[0].length();
            t.hills.clear();
            t.people.clear();
            t.day = 0;
            String all = String.join("", lines);
            for (int i = 0; i < all.length(); i++) {
                if (all.charAt(i) == '#') {
                    t.hills.add(i);
                }
            }
            return true;
        }
        One one = new One();
        one.kind = part.charAt(1) - '0';
        one.figure = part.charAt(2) - '0';
        one.plan = part.substring(3).replaceAll("[0-9]", "");
        one.cameTo = Integer.parseInt(part.substring(3).replaceAll("[^0-9]", ""));
        one.cameOn = t.day;
        one.track.put(t.day, one.cameTo);
        if (one.kind > 5 || !t.free(one.cameTo) || t.people.size() == 5) {
            return false;
        }
        t.people.add(one);
        return true;
    }

    int person(int p, int what) {
        int no = first(nobody(p), -1, what < 0 || what > 4, -2);
        if (no != 0) {
            return no;
        }
        One one = s.people.get(p);
        int[] all = {one.kind, one.figure, one.on(s.day), one.plan.length(), s.stepOf(p)};
        return all[what];
    }

    int delay(int v) {
        int no = first(v < 0, -4, v > 3, -6);
        int before = s.delay;
        if (no == 0) {
            s.delay = v;
        }
        return no != 0 ? no : before;
    }

    int day() {
        int no = first(s.day == 60, -6);
        return no != 0 ? no : s.goDay();
    }

    int was(int p, int day) {
        int no = first(nobody(p), -1, day < 0, -4, day > s.day, -6);
        return no != 0 ? no : s.people.get(p).on(day);
    }

    int sees(int a, int b) {
        int no = first(nobody(a) || nobody(b) || a == b, -1);
        return no != 0 ? no : s.people.get(b).on(s.day - s.delay);
    }

    int behind(int p, int n) {
        int no = first(nobody(p), -1, n < 0, -4, n > 60, -6);
        return no != 0 ? no : at(p, n);
    }

    private int at(int p, int n) {
        return s.behind(n).people.get(p).on(s.day + n);
    }

    int meet(int a, int b, int what) {
        int no = first(nobody(a) || nobody(b) || a == b, -1, what != 0 && what != 1, -2);
        if (no != 0) {
            return no;
        }
        State end = s.behind(60);
        One x = end.people.get(a);
        One y = end.people.get(b);
        for (int n = what; n <= 60; n++) {
            int d = s.day + n;
            if (what == 0 ? x.on(d) == y.on(d)
                    : x.on(d) == y.on(d - 1) && y.on(d) == x.on(d - 1) && x.on(d) != x.on(d - 1)) {
                return n;
            }
        }
        return -9;
    }

    int never(int p, int n) {
        int no = first(nobody(p), -1, n < 0, -4, n > 60, -6);
        if (no != 0) {
            return no;
        }
        One one = s.behind(n).people.get(p);
        int bits = 0;
        for (int cell = 0; cell < s.rows * s.cols; cell++) {
            boolean there = !s.free(cell);
            for (int i = 0; i <= n; i++) {
                there |= one.on(s.day + i) == cell;
            }
            bits += there ? 0 : 1 << cell;
        }
        return bits;
    }

    int crowd(int n, int what) {
        int no = first(what != 0 && what != 1, -2, n < 0, -4, n > 60, -6);
        if (no != 0) {
            return no;
        }
        State end = s.behind(n);
        int[] many = new int[30];
        for (One one : end.people) {
            many[one.on(end.day)]++;
        }
        int best = 0;
        for (int i = 1; i < 30; i++) {
            best = many[i] > many[best] ? i : best;
        }
        return what == 0 ? many[best] : many[best] == 0 ? -9 : best;
    }

    int reach(int cell, int n) {
        int no = first(!s.free(cell), -1, n < 0, -4, n > 30, -6);
        return no != 0 ? no : within(cell, n);
    }

    private int within(int cell, int n) {
        Map<Integer, Integer> far = new HashMap<>();
        List<Integer> queue = new ArrayList<>();
        far.put(cell, 0);
        queue.add(cell);
        int bits = 0;
        for (int i = 0; i < queue.size(); i++) {
            int c = queue.get(i);
            if (far.get(c) <= n) {
                bits |= 1 << c;
            }
            for (int step = 0; step < 4; step++) {
                if (s.may(c, step) && !far.containsKey(s.to(c, step))) {
                    far.put(s.to(c, step), far.get(c) + 1);
                    queue.add(s.to(c, step));
                }
            }
        }
        return bits;
    }

    int can(int a, int b) {
        int no = first(nobody(a) || nobody(b) || a == b, -1);
        return no != 0 ? no : within(s.people.get(b).on(s.day - s.delay), s.delay);
    }

    int ways(int from, int to, int n) {
        int no = first(!s.free(from) || !s.free(to), -1, n < 0, -4, n > 10, -6);
        return no != 0 ? no : walks(from, 0, n, List.of(new int[] {n, to}), new HashMap<>());
    }

    /** The walks from a cell behind some steps up to the last step that were seen as told. */
    private int walks(int cell, int done, int last, List<int[]> seen, Map<Integer, Integer> known) {
        for (int[] one : seen) {
            if (one[0] == done && one[1] != cell) {
                return 0;
            }
        }
        if (done == last) {
            return 1;
        }
        Integer before = known.get(done * 100 + cell);
        if (before != null) {
            return before;
        }
        int sum = 0;
        for (int step = 0; step < 5; step++) {
            if (s.may(cell, step)) {
                sum += walks(s.to(cell, step), done + 1, last, seen, known);
            }
        }
        known.put(done * 100 + cell, sum);
        return sum;
    }

    int sight(int steps, int cell) {
        int no = first(steps < 0, -4, !s.free(cell), -1, steps > 10 || sights.size() == 6, -6);
        if (no == 0) {
            sights.add(new int[] {steps, cell});
        }
        return no != 0 ? no : sights.size();
    }

    private int latest() {
        return sights.stream().mapToInt(one -> one[0]).max().orElse(0);
    }

    int fits(int from) {
        int no = first(!s.free(from), -1);
        return no != 0 ? no : walks(from, 0, latest(), sights, new HashMap<>());
    }

    int guess(int from, int k) {
        int no = first(!s.free(from), -1, k < 0, -4, k > latest(), -6);
        if (no != 0) {
            return no;
        }
        int best = -9;
        int most = 0;
        for (int cell = 0; cell < s.rows * s.cols; cell++) {
            List<int[]> more = new ArrayList<>(sights);
            more.add(new int[] {k, cell});
            int many = walks(from, 0, latest(), more, new HashMap<>());
            if (many > most) {
                most = many;
                best = cell;
            }
        }
        return best;
    }

    int forget() {
        int many = sights.size();
        sights.clear();
        return many;
    }

    int game(int hunter, int hare, int what) {
        int no = first(!s.free(hunter) || !s.free(hare), -1, what != 0 && what != 1, -2);
        if (no != 0) {
            return no;
        }
        int cells = s.rows * s.cols;
        int[][] worth = new int[cells][cells];
        for (int h = 0; h < cells; h++) {
            for (int p = 0; p < cells; p++) {
                worth[h][p] = h == p ? 0 : 9999;
            }
        }
        boolean more = true;
        while (more) {
            more = false;
            for (int h = 0; h < cells; h++) {
                for (int p = 0; p < cells; p++) {
                    for (int step = 0; step < 5 && s.free(h) && s.free(p) && h != p; step++) {
                        int v = s.may(h, step) ? 1 + reply(worth, s.to(h, step), p) : 9999;
                        if (v < worth[h][p]) {
                            worth[h][p] = v;
                            more = true;
                        }
                    }
                }
            }
        }
        int due = worth[hunter][hare];
        if (what == 0) {
            return due >= 9999 ? -9 : due;
        }
        for (int step = 0; step < 5 && due > 0 && due < 9999; step++) {
            if (s.may(hunter, step) && 1 + reply(worth, s.to(hunter, step), hare) == due) {
                return step;
            }
        }
        return -9;
    }

    private int reply(int[][] worth, int h, int p) {
        if (h == p) {
            return 0;
        }
        int most = 0;
        for (int step = 0; step < 5; step++) {
            if (s.may(p, step)) {
                most = Math.max(most, worth[h][s.to(p, step)]);
            }
        }
        return most;
    }

    int watchers(int r, int what) {
        int no = first(r < 1, -4, r > 5, -6, what != 0 && what != 1, -2);
        if (no != 0) {
            return no;
        }
        List<Integer> free = new ArrayList<>();
        for (int cell = 0; cell < s.rows * s.cols; cell++) {
            if (s.free(cell)) {
                free.add(cell);
            }
        }
        for (int many = 1; many <= 4 && !free.isEmpty(); many++) {
            int set = set(free, new ArrayList<>(), many, r);
            if (set != 0) {
                return what == 0 ? many : set;
            }
        }
        return -9;
    }

    private int set(List<Integer> free, List<Integer> chosen, int many, int r) {
        if (chosen.size() == many) {
            for (int cell : free) {
                boolean seen = false;
                for (int w : chosen) {
                    seen |= looks(w, cell, r);
                }
                if (!seen) {
                    return 0;
                }
            }
            return chosen.stream().mapToInt(c -> 1 << c).sum();
        }
        for (int cell : free) {
            if (chosen.isEmpty() || cell > chosen.get(chosen.size() - 1)) {
                chosen.add(cell);
                int set = set(free, chosen, many, r);
                if (set != 0) {
                    return set;
                }
                chosen.remove(chosen.size() - 1);
            }
        }
        return 0;
    }

    private boolean looks(int w, int cell, int r) {
        boolean oneRow = w / s.cols == cell / s.cols;
        if (!oneRow && w % s.cols != cell % s.cols || s.way(w, cell) > r) {
            return false;
        }
        for (int c = Math.min(w, cell); c <= Math.max(w, cell); c += oneRow ? 1 : s.cols) {
            if (!s.free(c)) {
                return false;
            }
        }
        return true;
    }

    int row(int cell) {
        int no = first(cell < 0, -4, cell > 29 || row.size() == 12, -6);
        if (no == 0) {
            row.add(cell);
        }
        return no != 0 ? no : row.size();
    }

    int judge(int p) {
        int no = first(nobody(p), -1);
        if (no != 0) {
            return no;
        }
        List<Integer> told = new ArrayList<>(row);
        row.clear();
        for (int i = 0; i < told.size(); i++) {
            if (told.get(i) != at(p, i)) {
                return i;
            }
        }
        return -9;
    }

    int seeds(int cell, int n, int z, int what) {
        int no = first(!s.free(cell), -1, n < 1, -4, n > 60, -6, what != 0 && what != 1, -2);
        if (no != 0) {
            return no;
        }
        Set<Integer> unlike = new HashSet<>();
        int at = cell;
        unlike.add(at);
        long seed = z;
        for (int i = 0; i < n; i++) {
            List<Integer> able = new ArrayList<>();
            for (int step = 0; step < 5; step++) {
                if (s.may(at, step)) {
                    able.add(step);
                }
            }
            seed = (int) (seed * 1103515245L + 12345L);
            long unsigned = Math.floorMod(seed, 1L << 31);
            at = s.to(at, able.get((int) (unsigned / 65536 % able.size())));
            unlike.add(at);
        }
        return what == 0 ? at : unlike.size();
    }

    int image() {
        kept = s.copy();
        return s.day;
    }

    int restore() {
        int no = first(kept == null, -3);
        if (no != 0) {
            return no;
        }
        s = kept.copy();
        return s.day;
    }

    int count(int what) {
        int[] all = {s.rows, s.cols, s.people.size(), s.hills.size(), s.day, s.delay, sights.size(),
            letters.length(), row.size()};
        if (what >= 11 && what <= 16) {
            return refusals.getOrDefault(10 - what, 0);
        }
        return what >= 0 && what < 9 ? all[what] : -9;
    }
}
