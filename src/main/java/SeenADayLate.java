import java.util.Arrays;

/** A moor on which light is slow: everybody is seen where he was some days ago. */
public final class SeenADayLate {
    private static final int NOBODY = -1;
    private static final int OTHER = -2;
    private static final int STATE = -3;
    private static final int BELOW = -4;
    private static final int ROOM = -6;
    private static final int NONE = -9;
    private static final int REFUSAL_KINDS = 6;
    private static final int FIRST_REFUSAL_COUNT = 10;

    private static final int STEPS = 5;
    private static final int STAY = 4;
    private static final int MOST_ROWS = 5;
    private static final int MOST_COLUMNS = 6;
    private static final int MOST_CELLS = 30;
    private static final int MOST_PEOPLE = 5;
    private static final int MOST_PLAN = 6;
    private static final int MOST_DELAY = 3;
    private static final int MOST_DAY = 60;
    private static final int MOST_AHEAD = 60;
    private static final int MOST_LETTERS = 80;
    private static final int MOST_LETTER = 255;
    private static final int MOST_REACH = 30;
    private static final int MOST_WALK = 10;
    private static final int MOST_SIGHTS = 6;
    private static final int MOST_LOOK = 5;
    private static final int MOST_WATCHERS = 4;
    private static final int MOST_ROW = 12;

    private static final int FAULT_OF_FORM = -1000;
    private static final int FAULT_OF_SENSE = -2000;

    private World now;
    /** Here a told moor is tried out, so that one with a fault leaves no trace. */
    private World spare;
    private final World kept;
    private boolean hasImage;
    private final Letters letters;
    private final Sights sights;
    private final Chase chase;
    private final int[] told;
    private int toldSize;
    private final int[] refusals;

    public SeenADayLate() {
        Moor bare = new Moor(3, 3, 0);
        now = new World(bare);
        spare = new World(bare);
        kept = new World(bare);
        hasImage = false;
        letters = new Letters();
        sights = new Sights();
        chase = new Chase();
        told = new int[MOST_ROW];
        toldSize = 0;
        refusals = new int[REFUSAL_KINDS + 1];
    }

    public int feed(int letter) {
        int no = outside(letter, 0, MOST_LETTER);
        if (no == 0 && letters.isFull()) {
            no = ROOM;
        }
        if (no != 0) {
            return refuse(no);
        }
        return letters.take(letter);
    }

    public int moor() {
        int answer;
        int bad = letters.firstBadPlace();
        if (bad >= 0) {
            answer = FAULT_OF_FORM - bad;
        } else {
            spare.become(now);
            answer = letters.tellTo(spare);
            if (answer >= 0) {
                World before = now;
                now = spare;
                spare = before;
            }
        }
        letters.clear();
        return answer;
    }

    public int person(int person, int what) {
        int no = notHere(person);
        if (no == 0) {
            no = notAsked(what, 4);
        }
        if (no != 0) {
            return refuse(no);
        }
        return now.tellOf(person, what);
    }

    public int delay(int v) {
        int no = outside(v, 0, MOST_DELAY);
        if (no != 0) {
            return refuse(no);
        }
        int before = now.lag;
        now.lag = v;
        return before;
    }

    public int day() {
        if (now.today >= MOST_DAY) {
            return refuse(ROOM);
        }
        return now.liveOneDay();
    }

    public int was(int person, int day) {
        int no = notHere(person);
        if (no == 0) {
            no = outside(day, 0, now.today);
        }
        if (no != 0) {
            return refuse(no);
        }
        return now.placeOf(person, day);
    }

    public int sees(int one, int other) {
        int no = notTwo(one, other);
        if (no != 0) {
            return refuse(no);
        }
        return now.sightOf(other, now.today);
    }

    public int behind(int person, int n) {
        int no = notHere(person);
        if (no == 0) {
            no = outside(n, 0, MOST_AHEAD);
        }
        if (no != 0) {
            return refuse(no);
        }
        now.foresee(n);
        return now.placeOf(person, now.today + n);
    }

    public int meet(int one, int other, int what) {
        int no = notTwo(one, other);
        if (no == 0) {
            no = notAsked(what, 1);
        }
        if (no != 0) {
            return refuse(no);
        }
        now.foresee(MOST_AHEAD);
        return what == 0 ? now.firstMeeting(one, other) : now.firstPassing(one, other);
    }

    public int never(int person, int n) {
        int no = notHere(person);
        if (no == 0) {
            no = outside(n, 0, MOST_AHEAD);
        }
        if (no != 0) {
            return refuse(no);
        }
        now.foresee(n);
        return now.moor.free & ~now.placesOf(person, n);
    }

    public int crowd(int n, int what) {
        int no = notAsked(what, 1);
        if (no == 0) {
            no = outside(n, 0, MOST_AHEAD);
        }
        if (no != 0) {
            return refuse(no);
        }
        now.foresee(n);
        int cell = now.fullestCell(now.today + n);
        if (what == 1) {
            return cell;
        }
        return cell == NONE ? 0 : now.howManyIn(cell, now.today + n);
    }

    public int reach(int cell, int n) {
        int no = notFree(cell);
        if (no == 0) {
            no = outside(n, 0, MOST_REACH);
        }
        if (no != 0) {
            return refuse(no);
        }
        return now.moor.spread(cell, n);
    }

    public int can(int one, int other) {
        int no = notTwo(one, other);
        if (no != 0) {
            return refuse(no);
        }
        return now.moor.spread(now.sightOf(other, now.today), now.lag);
    }

    public int ways(int from, int to, int n) {
        int no = notFree(from);
        if (no == 0) {
            no = notFree(to);
        }
        if (no == 0) {
            no = outside(n, 0, MOST_WALK);
        }
        if (no != 0) {
            return refuse(no);
        }
        return sights.walks(now.moor, from, to, n);
    }

    public int sight(int steps, int cell) {
        int no = steps < 0 ? BELOW : notFree(cell);
        if (no == 0 && (steps > MOST_WALK || sights.isFull())) {
            no = ROOM;
        }
        if (no != 0) {
            return refuse(no);
        }
        return sights.add(steps, cell);
    }

    public int fits(int from) {
        int no = notFree(from);
        if (no != 0) {
            return refuse(no);
        }
        return sights.fittingWalks(now.moor, from);
    }

    public int guess(int from, int k) {
        int no = notFree(from);
        if (no == 0) {
            no = outside(k, 0, sights.latest());
        }
        if (no != 0) {
            return refuse(no);
        }
        return sights.likeliestCell(now.moor, from, k);
    }

    public int forget() {
        return sights.clear();
    }

    public int game(int hunter, int hare, int what) {
        int no = notFree(hunter);
        if (no == 0) {
            no = notFree(hare);
        }
        if (no == 0) {
            no = notAsked(what, 1);
        }
        if (no != 0) {
            return refuse(no);
        }
        if (what == 0) {
            return chase.stepsToCatch(now.moor, hunter, hare);
        }
        return chase.firstStep(now.moor, hunter, hare);
    }

    public int watchers(int r, int what) {
        int no = outside(r, 1, MOST_LOOK);
        if (no == 0) {
            no = notAsked(what, 1);
        }
        if (no != 0) {
            return refuse(no);
        }
        int set = now.moor.fewestWatchers(r);
        return what == 1 || set == NONE ? set : Integer.bitCount(set);
    }

    public int row(int cell) {
        int no = outside(cell, 0, MOST_CELLS - 1);
        if (no == 0 && toldSize >= told.length) {
            no = ROOM;
        }
        if (no != 0) {
            return refuse(no);
        }
        told[toldSize] = cell;
        toldSize++;
        return toldSize;
    }

    public int judge(int person) {
        int no = notHere(person);
        if (no != 0) {
            return refuse(no);
        }
        now.foresee(toldSize);
        int wrong = NONE;
        for (int i = toldSize - 1; i >= 0; i--) {
            if (told[i] != now.placeOf(person, now.today + i)) {
                wrong = i;
            }
        }
        toldSize = 0;
        return wrong;
    }

    public int seeds(int cell, int n, int z, int what) {
        int no = notFree(cell);
        if (no == 0) {
            no = outside(n, 1, MOST_AHEAD);
        }
        if (no == 0) {
            no = notAsked(what, 1);
        }
        if (no != 0) {
            return refuse(no);
        }
        int at = cell;
        int seed = z;
        int visited = 1 << cell;
        for (int i = 0; i < n; i++) {
            seed = seed * 1103515245 + 12345;
            at = now.moor.drawnStep(at, (seed & Integer.MAX_VALUE) >>> 16);
            visited |= 1 << at;
        }
        return what == 0 ? at : Integer.bitCount(visited);
    }

    public int image() {
        kept.become(now);
        hasImage = true;
        return now.today;
    }

    public int restore() {
        if (!hasImage) {
            return refuse(STATE);
        }
        now.become(kept);
        return now.today;
    }

    public int count(int what) {
        switch (what) {
            case 0: return now.moor.rows;
            case 1: return now.moor.columns;
            case 2: return now.size;
            case 3: return now.moor.hillCount();
            case 4: return now.today;
            case 5: return now.lag;
            case 6: return sights.size;
            case 7: return letters.size;
            case 8: return toldSize;
            default: return refusalsOf(what);
        }
    }

    private int refusalsOf(int what) {
        if (what <= FIRST_REFUSAL_COUNT || what > FIRST_REFUSAL_COUNT + REFUSAL_KINDS) {
            return NONE;
        }
        return refusals[what - FIRST_REFUSAL_COUNT];
    }

    private int refuse(int number) {
        if (number < 0 && number >= -REFUSAL_KINDS) {
            refusals[-number]++;
        }
        return number;
    }

    /* The tests of arguments answer 0, or the number with which to refuse. */

    private static int outside(int number, int least, int greatest) {
        if (number < least) {
            return BELOW;
        }
        return number > greatest ? ROOM : 0;
    }

    private static int notAsked(int what, int last) {
        return what < 0 || what > last ? OTHER : 0;
    }

    private int notHere(int person) {
        return now.personAt(person) == null ? NOBODY : 0;
    }

    private int notTwo(int one, int other) {
        return one == other || notHere(one) != 0 || notHere(other) != 0 ? NOBODY : 0;
    }

    private int notFree(int cell) {
        return now.moor.isFree(cell) ? 0 : NOBODY;
    }

    /** The ground; it never changes, so that several worlds may stand on one. */
    private static final class Moor {
        final int rows;
        final int columns;
        final int cells;
        final int free;
        private final int[] rowOf;
        private final int[] columnOf;
        /** By cell * STEPS + step: where the step leads, or NONE. */
        private final int[] next;
        /** By cell: the cells to which one step leads, as bits. */
        private final int[] around;
        /** By cell: what a watcher there looks at, as bits; filled anew by each search. */
        private final int[] looks;

        Moor(int rows, int columns, int hills) {
            this.rows = Math.max(0, Math.min(rows, MOST_ROWS));
            this.columns = Math.max(0, Math.min(columns, MOST_COLUMNS));
            cells = this.rows * this.columns;
            free = ~hills & ((1 << cells) - 1);
            rowOf = new int[MOST_CELLS];
            columnOf = new int[MOST_CELLS];
            next = new int[MOST_CELLS * STEPS];
            around = new int[MOST_CELLS];
            looks = new int[MOST_CELLS];
            Arrays.fill(next, NONE);
            for (int r = 0; r < this.rows; r++) {
                for (int c = 0; c < this.columns; c++) {
                    rowOf[r * this.columns + c] = r;
                    columnOf[r * this.columns + c] = c;
                }
            }
            for (int cell = 0; cell < cells; cell++) {
                layOutSteps(cell);
            }
        }

        private void layOutSteps(int cell) {
            for (int step = 0; step < STEPS && isFree(cell); step++) {
                int to = neighbour(cell, step);
                if (isFree(to)) {
                    next[cell * STEPS + step] = to;
                    around[cell] |= 1 << to;
                }
            }
        }

        /** The cell a step away, hill or not; NONE beyond the moor's edge. */
        private int neighbour(int cell, int step) {
            int r = rowOf[cell];
            int c = columnOf[cell];
            switch (step) {
                case 0: return r > 0 ? cell - columns : NONE;
                case 1: return c < columns - 1 ? cell + 1 : NONE;
                case 2: return r < rows - 1 ? cell + columns : NONE;
                case 3: return c > 0 ? cell - 1 : NONE;
                default: return cell;
            }
        }

        boolean isCell(int cell) {
            return cell >= 0 && cell < cells;
        }

        boolean isFree(int cell) {
            return cell >= 0 && cell < cells && (free >>> cell & 1) == 1;
        }

        int hillCount() {
            return cells - Integer.bitCount(free);
        }

        /** Where a step leads, or NONE if it may not be made. */
        int leadsTo(int cell, int step) {
            if (!isCell(cell) || step < 0 || step >= STEPS) {
                return NONE;
            }
            return next[cell * STEPS + step];
        }

        int stepsAround(int cell) {
            return isCell(cell) ? around[cell] : 0;
        }

        int distance(int one, int other) {
            if (!isCell(one) || !isCell(other)) {
                return 0;
            }
            return Math.abs(rowOf[one] - rowOf[other]) + Math.abs(columnOf[one] - columnOf[other]);
        }

        /** The cell to which going on as from one to another leads in some days more, hills aside. */
        int goingOn(int from, int to, int days) {
            if (!isCell(from) || !isCell(to)) {
                return to;
            }
            int r = rowOf[to] + days * (rowOf[to] - rowOf[from]);
            int c = columnOf[to] + days * (columnOf[to] - columnOf[from]);
            r = Math.max(0, Math.min(r, rows - 1));
            c = Math.max(0, Math.min(c, columns - 1));
            return r * columns + c;
        }

        /** The cells within n steps, as bits. */
        int spread(int cell, int n) {
            int reached = isFree(cell) ? 1 << cell : 0;
            for (int i = 0; i < n; i++) {
                int wider = reached;
                for (int c = 0; c < cells; c++) {
                    if ((reached >>> c & 1) == 1) {
                        wider |= around[c];
                    }
                }
                if (wider == reached) {
                    return reached;
                }
                reached = wider;
            }
            return reached;
        }

        /** Where one comes who takes, of the steps that may be made, the one with this number, round and round. */
        int drawnStep(int cell, int number) {
            int choices = Integer.bitCount(stepsAround(cell));
            if (choices == 0 || number < 0) {
                return cell;
            }
            int left = number % choices;
            for (int step = 0; step < STEPS; step++) {
                int to = leadsTo(cell, step);
                if (to != NONE && left == 0) {
                    return to;
                }
                if (to != NONE) {
                    left--;
                }
            }
            return cell;
        }

        /** The first of the smallest sets of watchers that look at all free cells, as bits, or NONE. */
        int fewestWatchers(int r) {
            if (free == 0) {
                return NONE;
            }
            for (int cell = 0; cell < cells; cell++) {
                looks[cell] = isFree(cell) ? lookedAt(cell, r) : 0;
            }
            for (int many = 1; many <= MOST_WATCHERS; many++) {
                int set = watchersFor(this, free, 0, many);
                if (set != NONE) {
                    return set;
                }
            }
            return NONE;
        }

        private int lookedAt(int cell, int r) {
            int seen = 1 << cell;
            for (int step = 0; step < STAY; step++) {
                int at = cell;
                for (int i = 0; i < r && at != NONE; i++) {
                    at = leadsTo(at, step);
                    if (at != NONE) {
                        seen |= 1 << at;
                    }
                }
            }
            return seen;
        }

        /** The first set of just so many watchers, none ahead of a cell, that look at what is missing. */
        private static int watchersFor(Moor moor, int missing, int from, int many) {
            if (many <= 1) {
                return moor.lastWatcher(missing, from);
            }
            for (int cell = from; cell < moor.cells; cell++) {
                if (moor.isFree(cell)) {
                    int others = watchersFor(moor, missing & ~moor.looks[cell], cell + 1, many - 1);
                    if (others != NONE) {
                        return others | 1 << cell;
                    }
                }
            }
            return NONE;
        }

        private int lastWatcher(int missing, int from) {
            for (int cell = from; cell < cells; cell++) {
                if ((missing & ~looks[cell]) == 0) {
                    return 1 << cell;
                }
            }
            return NONE;
        }
    }

    /** Kind 0, who goes by his plan; he stays as he was made, so that several worlds may hold him. */
    private static class Walker {
        final int figure;
        final int[] plan;

        Walker(int figure, int[] plan) {
            this.figure = figure;
            this.plan = plan;
        }

        static Walker ofKind(int kind, int figure, int[] plan) {
            switch (kind) {
                case 0: return new Walker(figure, plan);
                case 1: return new Hunter(figure, plan);
                case 2: return new Hare(figure, plan);
                case 3: return new Dog(figure, plan);
                case 4: return new Still(figure, plan);
                case 5: return new Reckoner(figure, plan);
                default: return null;
            }
        }

        int kind() {
            return 0;
        }

        /** The step of this one, who has the number self, on a day. */
        int chooses(World world, int self, int time) {
            return byPlan(world, self, time);
        }

        final int byPlan(World world, int self, int time) {
            if (plan.length == 0 || time < 0) {
                return STAY;
            }
            int step = plan[time % plan.length];
            return world.moor.leadsTo(world.placeOf(self, time), step) == NONE ? STAY : step;
        }
    }

    private static class Hunter extends Walker {
        Hunter(int figure, int[] plan) {
            super(figure, plan);
        }

        int kind() {
            return 1;
        }

        int chooses(World world, int self, int time) {
            int prey = world.size > 0 ? figure % world.size : self;
            if (prey == self) {
                return byPlan(world, self, time);
            }
            int goal = aim(world, prey, time);
            int cell = world.placeOf(self, time);
            int best = STAY;
            int least = Integer.MAX_VALUE;
            for (int step = 0; step < STEPS; step++) {
                int to = world.moor.leadsTo(cell, step);
                if (to != NONE) {
                    int far = world.moor.distance(to, goal);
                    if (far < least) {
                        best = step;
                        least = far;
                    }
                }
            }
            return best;
        }

        /** The cell to which he goes. */
        int aim(World world, int prey, int time) {
            return world.sightOf(prey, time);
        }
    }

    private static final class Hare extends Walker {
        Hare(int figure, int[] plan) {
            super(figure, plan);
        }

        int kind() {
            return 2;
        }

        int chooses(World world, int self, int time) {
            if (world.size <= 1) {
                return byPlan(world, self, time);
            }
            int cell = world.placeOf(self, time);
            int best = STAY;
            int greatest = -1;
            for (int step = 0; step < STEPS; step++) {
                int to = world.moor.leadsTo(cell, step);
                if (to != NONE) {
                    int room = world.leastDistance(to, self, time);
                    if (room > greatest) {
                        best = step;
                        greatest = room;
                    }
                }
            }
            return best;
        }
    }

    private static final class Dog extends Hunter {
        Dog(int figure, int[] plan) {
            super(figure, plan);
        }

        int kind() {
            return 3;
        }

        int aim(World world, int prey, int time) {
            return world.sightOf(prey, time - 1);
        }
    }

    private static final class Still extends Walker {
        Still(int figure, int[] plan) {
            super(figure, plan);
        }

        int kind() {
            return 4;
        }

        int chooses(World world, int self, int time) {
            return STAY;
        }
    }

    private static final class Reckoner extends Hunter {
        Reckoner(int figure, int[] plan) {
            super(figure, plan);
        }

        int kind() {
            return 5;
        }

        int aim(World world, int prey, int time) {
            return world.moor.goingOn(world.sightOf(prey, time - 1), world.sightOf(prey, time), world.lag);
        }
    }

    /** All that an image holds: the moor, the people, where they were, the day, the delay. */
    private static final class World {
        Moor moor;
        int lag;
        int today;
        int size;
        private final Walker[] people;
        /** By person and day; what stands beyond today was only foreseen, and is written anew each time. */
        private final int[][] places;

        World(Moor moor) {
            this.moor = moor;
            lag = 1;
            today = 0;
            size = 0;
            people = new Walker[MOST_PEOPLE];
            places = new int[MOST_PEOPLE][MOST_DAY + MOST_AHEAD + 1];
        }

        void become(World other) {
            moor = other.moor;
            lag = other.lag;
            today = other.today;
            size = other.size;
            for (int i = 0; i < MOST_PEOPLE; i++) {
                people[i] = other.people[i];
                System.arraycopy(other.places[i], 0, places[i], 0, MOST_DAY + 1);
            }
        }

        void settleOn(Moor ground) {
            moor = ground;
            today = 0;
            size = 0;
        }

        /** One more comes, if there is room; on the days before he counts as where he came. */
        boolean receive(Walker one, int cell) {
            if (one == null || size >= MOST_PEOPLE || !moor.isFree(cell)) {
                return false;
            }
            people[size] = one;
            Arrays.fill(places[size], cell);
            size++;
            return true;
        }

        Walker personAt(int person) {
            return person >= 0 && person < size ? people[person] : null;
        }

        int tellOf(int person, int what) {
            Walker one = personAt(person);
            if (one == null) {
                return NOBODY;
            }
            switch (what) {
                case 0: return one.kind();
                case 1: return one.figure;
                case 2: return placeOf(person, today);
                case 3: return one.plan.length;
                default: return one.chooses(this, person, today);
            }
        }

        int placeOf(int person, int time) {
            if (person < 0 || person >= size || time >= places[person].length) {
                return NONE;
            }
            return places[person][time < 0 ? 0 : time];
        }

        /** Where others see one on a day. */
        int sightOf(int person, int time) {
            return placeOf(person, time - lag);
        }

        /** How near a cell is to where one, who is none of them, sees the nearest of the others. */
        int leastDistance(int cell, int self, int time) {
            int least = Integer.MAX_VALUE;
            for (int i = 0; i < size; i++) {
                if (i != self) {
                    least = Math.min(least, moor.distance(cell, sightOf(i, time)));
                }
            }
            return least;
        }

        int liveOneDay() {
            allStep(today);
            int changed = 0;
            for (int i = 0; i < size; i++) {
                if (placeOf(i, today) != placeOf(i, today + 1)) {
                    changed++;
                }
            }
            today++;
            return changed;
        }

        void foresee(int n) {
            for (int i = 0; i < n; i++) {
                allStep(today + i);
            }
        }

        private void allStep(int time) {
            if (time < 0 || time >= MOST_DAY + MOST_AHEAD) {
                return;
            }
            for (int i = 0; i < size; i++) {
                int cell = places[i][time];
                int to = people[i] == null ? cell : moor.leadsTo(cell, people[i].chooses(this, i, time));
                places[i][time + 1] = to == NONE ? cell : to;
            }
        }

        int firstMeeting(int one, int other) {
            for (int i = 0; i <= MOST_AHEAD; i++) {
                if (placeOf(one, today + i) == placeOf(other, today + i)) {
                    return i;
                }
            }
            return NONE;
        }

        int firstPassing(int one, int other) {
            for (int i = 1; i <= MOST_AHEAD; i++) {
                int oneFrom = placeOf(one, today + i - 1);
                int otherFrom = placeOf(other, today + i - 1);
                boolean change = placeOf(one, today + i) == otherFrom && placeOf(other, today + i) == oneFrom;
                if (change && oneFrom != otherFrom) {
                    return i;
                }
            }
            return NONE;
        }

        /** The cells where one is from today on up to n days later, as bits. */
        int placesOf(int person, int n) {
            int bits = 0;
            for (int i = 0; i <= n; i++) {
                int cell = placeOf(person, today + i);
                if (cell != NONE) {
                    bits |= 1 << cell;
                }
            }
            return bits;
        }

        int howManyIn(int cell, int time) {
            int many = 0;
            for (int i = 0; i < size; i++) {
                if (placeOf(i, time) == cell) {
                    many++;
                }
            }
            return many;
        }

        int fullestCell(int time) {
            int best = NONE;
            int most = 0;
            for (int cell = 0; cell < moor.cells; cell++) {
                int many = howManyIn(cell, time);
                if (many > most) {
                    best = cell;
                    most = many;
                }
            }
            return best;
        }
    }

    /** The letters that were fed: whether they have the form of a moor, and what they tell. */
    private static final class Letters {
        private static final String STEP_SIGNS = "nesw-";
        private static final int OPEN = 0;
        private static final int IN_ROWS = 1;
        private static final int AT_KIND = 2;
        private static final int AT_FIGURE = 3;
        private static final int AT_CELL = 4;
        private static final int BEHIND_CELL_DIGIT = 5;
        private static final int IN_PLAN = 6;
        private static final int AT_DELAY = 7;
        private static final int AT_END = 8;

        int size;
        private final int[] signs;
        /* How far the reading has come in a statement. */
        private int phase;
        private int rowsBefore;
        private int width;
        private int column;
        private int planned;

        Letters() {
            signs = new int[MOST_LETTERS];
            clear();
        }

        void clear() {
            size = 0;
            phase = OPEN;
        }

        boolean isFull() {
            return size >= signs.length;
        }

        int take(int sign) {
            if (!isFull()) {
                signs[size] = sign;
                size++;
            }
            return size;
        }

        /** The place of the first letter that breaks the form, or of the end if something lacks; else -1. */
        int firstBadPlace() {
            phase = OPEN;
            for (int i = 0; i < size; i++) {
                if (!goesOn(signs[i])) {
                    return i;
                }
            }
            return size > 0 && phase == OPEN ? -1 : size;
        }

        private boolean goesOn(int sign) {
            switch (phase) {
                case OPEN: return opens(sign);
                case IN_ROWS: return goesOnInRows(sign);
                case AT_KIND: return isDigitThen(sign, AT_FIGURE);
                case AT_FIGURE: return isDigitThen(sign, AT_CELL);
                case AT_CELL: return isDigitThen(sign, BEHIND_CELL_DIGIT);
                case BEHIND_CELL_DIGIT: return isDigitThen(sign, IN_PLAN) || goesOnInPlan(sign);
                case IN_PLAN: return goesOnInPlan(sign);
                case AT_DELAY: return isDigitThen(sign, AT_END);
                default: return closes(sign);
            }
        }

        private boolean opens(int sign) {
            rowsBefore = 0;
            width = MOST_COLUMNS;
            column = 0;
            planned = 0;
            switch (sign) {
                case 'm': phase = IN_ROWS; return true;
                case 'p': phase = AT_KIND; return true;
                case 'd': phase = AT_DELAY; return true;
                default: return false;
            }
        }

        private boolean closes(int sign) {
            phase = OPEN;
            return sign == ';';
        }

        private boolean goesOnInRows(int sign) {
            if (sign == '.' || sign == '#') {
                column++;
                return column <= width;
            }
            if (sign == '/') {
                boolean fits = rowsBefore == 0 ? column >= 2 : column == width;
                width = column;
                column = 0;
                rowsBefore++;
                return fits && rowsBefore < MOST_ROWS;
            }
            return rowsBefore > 0 && column == width && closes(sign);
        }

        private boolean goesOnInPlan(int sign) {
            if (stepOf(sign) < 0) {
                return closes(sign);
            }
            phase = IN_PLAN;
            planned++;
            return planned <= MOST_PLAN;
        }

        private boolean isDigitThen(int sign, int then) {
            if (!isDigit(sign)) {
                return false;
            }
            phase = then;
            return true;
        }

        private static boolean isDigit(int sign) {
            return sign >= '0' && sign <= '9';
        }

        private static int stepOf(int sign) {
            return STEP_SIGNS.indexOf((char) sign);
        }

        private int signAt(int place) {
            return place >= 0 && place < size ? signs[place] : 0;
        }

        private int digitAt(int place) {
            return signAt(place) - '0';
        }

        /** Letters of the right form tell their statements: how many, or the fault of the first that can't be. */
        int tellTo(World world) {
            int statements = 0;
            int from = 0;
            for (int end = 0; end < size; end++) {
                if (signs[end] == ';') {
                    boolean good = true;
                    switch (signs[from]) {
                        case 'm': tellMoor(world, from, end); break;
                        case 'p': good = tellPerson(world, from, end); break;
                        default: good = tellDelay(world, from); break;
                    }
                    if (!good) {
                        return FAULT_OF_SENSE - from;
                    }
                    statements++;
                    from = end + 1;
                }
            }
            return statements;
        }

        private void tellMoor(World world, int from, int end) {
            int rows = 1;
            int columns = 0;
            int cell = 0;
            int hills = 0;
            for (int i = from + 1; i < end; i++) {
                if (signAt(i) == '/') {
                    rows++;
                } else {
                    hills |= signAt(i) == '#' ? 1 << cell : 0;
                    cell++;
                    columns += rows == 1 ? 1 : 0;
                }
            }
            world.settleOn(new Moor(rows, columns, hills));
        }

        private boolean tellPerson(World world, int from, int end) {
            int cell = digitAt(from + 3);
            int at = from + 4;
            if (isDigit(signAt(at))) {
                cell = cell * 10 + digitAt(at);
                at++;
            }
            int[] plan = new int[Math.max(0, end - at)];
            for (int i = 0; i < plan.length; i++) {
                plan[i] = stepOf(signAt(at + i));
            }
            return world.receive(Walker.ofKind(digitAt(from + 1), digitAt(from + 2), plan), cell);
        }

        private boolean tellDelay(World world, int from) {
            int told = digitAt(from + 1);
            if (told < 0 || told > MOST_DELAY) {
                return false;
            }
            world.lag = told;
            return true;
        }
    }

    /** What watchers saw of somebody, and the counts of the walks that he can have made. */
    private static final class Sights {
        int size;
        private final int[] steps;
        private final int[] cells;
        /** By cell: the walks that end there. */
        private final int[] counts;
        /** By cell: the walks that go on from there. */
        private final int[] rest;
        private final int[] before;

        Sights() {
            size = 0;
            steps = new int[MOST_SIGHTS];
            cells = new int[MOST_SIGHTS];
            counts = new int[MOST_CELLS];
            rest = new int[MOST_CELLS];
            before = new int[MOST_CELLS];
        }

        boolean isFull() {
            return size >= MOST_SIGHTS;
        }

        int add(int stepCount, int cell) {
            if (!isFull()) {
                steps[size] = stepCount;
                cells[size] = cell;
                size++;
            }
            return size;
        }

        int clear() {
            int many = size;
            size = 0;
            return many;
        }

        int latest() {
            int last = 0;
            for (int i = 0; i < size; i++) {
                last = Math.max(last, steps[i]);
            }
            return last;
        }

        int walks(Moor moor, int from, int to, int n) {
            startFrom(moor, from);
            for (int i = 0; i < n; i++) {
                addStep(moor, counts);
            }
            return moor.isCell(to) ? counts[to] : 0;
        }

        int fittingWalks(Moor moor, int from) {
            countUpTo(moor, from, latest());
            int sum = 0;
            for (int cell = 0; cell < moor.cells; cell++) {
                sum += counts[cell];
            }
            return sum;
        }

        int likeliestCell(Moor moor, int from, int k) {
            countUpTo(moor, from, k);
            countBackTo(moor, k);
            int best = NONE;
            int most = 0;
            for (int cell = 0; cell < moor.cells; cell++) {
                int many = counts[cell] * rest[cell];
                if (many > most) {
                    best = cell;
                    most = many;
                }
            }
            return best;
        }

        private void startFrom(Moor moor, int from) {
            Arrays.fill(counts, 0);
            if (moor.isFree(from)) {
                counts[from] = 1;
            }
        }

        private void countUpTo(Moor moor, int from, int k) {
            startFrom(moor, from);
            strikeOut(counts, 0);
            for (int i = 1; i <= k; i++) {
                addStep(moor, counts);
                strikeOut(counts, i);
            }
        }

        /** Steps lead both ways, so that the walks from here on are counted as those that come from the end. */
        private void countBackTo(Moor moor, int k) {
            int last = latest();
            Arrays.fill(rest, 0);
            for (int cell = 0; cell < moor.cells; cell++) {
                rest[cell] = moor.isFree(cell) ? 1 : 0;
            }
            strikeOut(rest, last);
            for (int i = last - 1; i >= k; i--) {
                addStep(moor, rest);
                strikeOut(rest, i);
            }
        }

        private void addStep(Moor moor, int[] row) {
            System.arraycopy(row, 0, before, 0, MOST_CELLS);
            for (int cell = 0; cell < moor.cells; cell++) {
                int sum = 0;
                for (int step = 0; step < STEPS; step++) {
                    int other = moor.leadsTo(cell, step);
                    sum += other == NONE ? 0 : before[other];
                }
                row[cell] = sum;
            }
        }

        /** No walk is left that is behind so many steps elsewhere than it was seen. */
        private void strikeOut(int[] row, int stepCount) {
            for (int i = 0; i < size; i++) {
                for (int cell = 0; cell < MOST_CELLS && steps[i] == stepCount; cell++) {
                    if (cell != cells[i]) {
                        row[cell] = 0;
                    }
                }
            }
        }
    }

    /** The game by turns, solved backwards from where the hare is caught. */
    private static final class Chase {
        /** By the hunter's cell, as bits: the hare's cells where it is caught so far, if the hunter is to step. */
        private final int[] won;
        /** The same, if the hare is to step. */
        private final int[] held;

        Chase() {
            won = new int[MOST_CELLS];
            held = new int[MOST_CELLS];
        }

        int stepsToCatch(Moor moor, int hunter, int hare) {
            if (hunter == hare) {
                return 0;
            }
            if (!moor.isFree(hunter) || !moor.isFree(hare)) {
                return NONE;
            }
            for (int cell = 0; cell < moor.cells; cell++) {
                won[cell] = 1 << cell;
            }
            for (int many = 1; many <= MOST_CELLS * MOST_CELLS; many++) {
                letHareStep(moor);
                boolean more = letHunterStep(moor);
                if ((won[hunter] >>> hare & 1) == 1) {
                    return many;
                }
                if (!more) {
                    return NONE;
                }
            }
            return NONE;
        }

        int firstStep(Moor moor, int hunter, int hare) {
            if (stepsToCatch(moor, hunter, hare) <= 0) {
                return NONE;
            }
            for (int step = 0; step < STEPS; step++) {
                int to = moor.leadsTo(hunter, step);
                if (to != NONE && (held[to] >>> hare & 1) == 1) {
                    return step;
                }
            }
            return NONE;
        }

        private void letHareStep(Moor moor) {
            for (int hunter = 0; hunter < moor.cells; hunter++) {
                int bits = 1 << hunter;
                for (int hare = 0; hare < moor.cells; hare++) {
                    if (moor.isFree(hare) && (moor.stepsAround(hare) & ~won[hunter]) == 0) {
                        bits |= 1 << hare;
                    }
                }
                held[hunter] = bits;
            }
        }

        private boolean letHunterStep(Moor moor) {
            boolean more = false;
            for (int hunter = 0; hunter < moor.cells; hunter++) {
                int bits = won[hunter];
                for (int step = 0; step < STEPS; step++) {
                    int to = moor.leadsTo(hunter, step);
                    bits |= to == NONE ? 0 : held[to];
                }
                more |= bits != won[hunter];
                won[hunter] = bits;
            }
            return more;
        }
    }
}
