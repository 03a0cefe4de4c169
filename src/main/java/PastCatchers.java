import java.util.Arrays;

/**
 * A yard of lanes over which all run at a shout, past those who catch; whoever is held catches, too.
 * The document ../shared/DOC.md says what each call answers and changes.
 */
public final class PastCatchers {
    public static final int NONE = -1, BAD = -2, STATE = -3, FULL = -4;
    public static final long NO = Long.MIN_VALUE;

    private static final int NOBODY = -5, TOO_MANY = -9, NO_FAULT_YET = -10;
    private static final int NOTHING = -11, CAST = -12, PLACE = -13, SIZE = -14;

    private static final int PEOPLE = 7, LANES = 7, TOP = 9, PARTS = 4;
    private static final int KINDS = 7, EDGED = 1, SHIELDED = 2, WAITING = 3;
    private static final int DASHING = 4, SEEKING = 5, TOLD = 6;
    private static final int LAST_SHOUT = 999, SHOUTS_AHEAD = 30;
    private static final int YARDS = 6, TEXT = 100, BOOK = 12, SPREAD_MOST = 3;

    /** The KIND above each KIND; -1 above RUNNER. */
    private static final int[] ABOVE = {-1, 0, 0, 0, 1, 2, 3};

    private final Group now = new Group();
    private final Group kept = new Group();
    private boolean imaged;
    private final Crossing trial = new Crossing();
    private final Yard[] yards = new Yard[YARDS];
    private final Yard bare = new Yard();
    private int yardCount;
    private final TextReader reader = new TextReader();
    private final Acts acts = new Acts();
    private final Tapes tapes = new Tapes();

    public PastCatchers() {
        for (int i = 0; i < YARDS; i++) {
            yards[i] = new Yard();
        }
    }

    // ---- people, yards

    public int person(int kind, int v, int lane, int pace, int strength) {
        if (kind < 0 || kind >= KINDS) {
            return NONE;
        }
        if (!isDigit(v) || !isLane(lane) || !isDigit(pace) || !isDigit(strength)) {
            return BAD;
        }
        return now.joins(kind, v, lane, pace, strength);
    }

    public int of(int person, int what) {
        if (!now.has(person)) {
            return NONE;
        }
        switch (what) {
            case 0: return now.kind[person];
            case 1: return now.v[person];
            case 2: return now.lane[person];
            case 3: return now.pace[person];
            case 4: return now.strength[person];
            case 5: return now.doesCatch(person) ? 1 : 0;
            case 6: case 7: case 8: case 9: return measured(person, what);
            default: return NONE;
        }
    }

    public int set(int person, int what, int n) {
        if (!now.has(person) || what < 0 || what > 1) {
            return NONE;
        }
        if (what == 0 ? !isLane(n) : !isDigit(n)) {
            return BAD;
        }
        int was = what == 0 ? now.lane[person] : now.strength[person];
        if (what == 0) {
            now.lane[person] = n;
        } else {
            now.strength[person] = n;
        }
        return was;
    }

    public int catches(int person, boolean does) {
        if (!now.has(person)) {
            return NONE;
        }
        int was = now.doesCatch(person) ? 1 : 0;
        if (does) {
            now.catching |= 1 << person;
        } else {
            now.catching &= ~(1 << person);
        }
        return was;
    }

    public int row(int person, int part, int n) {
        if (!now.has(person) || part < 0 || part >= PARTS) {
            return NONE;
        }
        if (!isLane(n)) {
            return BAD;
        }
        if (now.kind[person] != TOLD) {
            return STATE;
        }
        int was = now.turns[person * PARTS + part];
        now.turns[person * PARTS + part] = n;
        return was;
    }

    public int feed(int sign) {
        if (sign < 0 || sign > 127) {
            return BAD;
        }
        return reader.takesIn(sign) ? reader.size : FULL;
    }

    public int yard() {
        if (yardCount >= YARDS) {
            return FULL;
        }
        int fault = reader.readsInto(yards[yardCount]);
        reader.size = 0;
        if (fault >= 0) {
            return NO_FAULT_YET - fault;
        }
        now.holding = yardCount;
        yardCount++;
        return now.holding;
    }

    public int told(int what) {
        switch (what) {
            case 0: return now.shouts;
            case 1: return now.running();
            case 2: return now.catching;
            default: return NONE;
        }
    }

    // ---- shouts

    public int shout() {
        if (now.shouts >= LAST_SHOUT) {
            return STATE;
        }
        asksAnew();
        int caught = trial.caughtNext();
        now.catching |= caught;
        now.shouts++;
        return caught;
    }

    public int on(int n, int what) {
        if (what < 0 || what > 1) {
            return NONE;
        }
        if (n < 0 || n > SHOUTS_AHEAD) {
            return BAD;
        }
        asksAnew();
        int caught = 0;
        for (int i = 0; i < n; i++) {
            caught += Integer.bitCount(trial.goesOn());
        }
        return what == 0 ? trial.group.running() : caught;
    }

    public int last(int what) {
        if (what < 0 || what > 1) {
            return NONE;
        }
        asksAnew();
        for (int n = 0; n <= SHOUTS_AHEAD; n++) {
            int running = trial.group.running();
            if (Integer.bitCount(running) <= 1) {
                return what == 0 ? firstIn(running) : n;
            }
            trial.goesOn();
        }
        return NOBODY;
    }

    // ---- who, where

    public int first(int what) {
        if (what < 0 || what > 1) {
            return NONE;
        }
        int who = NOBODY;
        int most = NOBODY;
        int running = now.running();
        asksAnew();
        for (int p = 0; p < PEOPLE; p++) {
            if (isIn(running, p)) {
                trial.group.catching = now.catching | 1 << p;
                int caught = Integer.bitCount(trial.caughtNext());
                if (caught > most) {
                    most = caught;
                    who = p;
                }
            }
        }
        return what == 0 ? who : most;
    }

    public int stand(int person, int what) {
        if (!now.has(person) || what < 0 || what > 1) {
            return NONE;
        }
        if (!now.doesCatch(person)) {
            return STATE;
        }
        int where = 0;
        int most = -1;
        for (int lane = 0; lane < LANES; lane++) {
            int caught = Integer.bitCount(caughtFrom(person, lane));
            if (caught > most) {
                most = caught;
                where = lane;
            }
        }
        return what == 0 ? where : most;
    }

    public int best(int person) {
        if (!now.has(person)) {
            return NONE;
        }
        if (now.doesCatch(person)) {
            return STATE;
        }
        int lanes = 0;
        for (int lane = 0; lane < LANES; lane++) {
            asksAnew();
            trial.sends(person, lane);
            if (!isIn(trial.caughtNext(), person)) {
                lanes |= 1 << lane;
            }
        }
        return lanes;
    }

    public int need(int person) {
        if (!now.has(person)) {
            return NONE;
        }
        if (now.doesCatch(person)) {
            return STATE;
        }
        asksAnew();
        for (int strength = 0; strength <= TOP; strength++) {
            trial.group.strength[person] = strength;
            if (!isIn(trial.caughtNext(), person)) {
                return strength;
            }
        }
        return NOBODY;
    }

    public int hands() {
        asksAnew();
        trial.handsOut = true;
        // All who catch meet the first who is caught, and are busy then: there is never a second.
        return firstIn(trial.caughtNext());
    }

    public int alone(int person) {
        if (!now.has(person)) {
            return NONE;
        }
        if (!now.doesCatch(person)) {
            return STATE;
        }
        asksAnew();
        trial.absent = now.catching & ~(1 << person);
        return Integer.bitCount(trial.caughtNext());
    }

    public int spread(int k) {
        if (k < -1 || k >= SPREAD_MOST) {
            return NONE;
        }
        int catchers = Integer.bitCount(now.catching);
        if (catchers > SPREAD_MOST) {
            return TOO_MANY;
        }
        int most = -1;
        int where = 0;
        int rows = laneRows(catchers);
        asksAnew();
        for (int row = 0; row < rows; row++) {
            trial.group.spreadsOut(row);
            int caught = Integer.bitCount(trial.caughtNext());
            if (caught > most) {
                most = caught;
                where = row;
            }
        }
        if (k == -1) {
            return most;
        }
        return k < catchers ? where / laneRows(catchers - 1 - k) % LANES : NOBODY;
    }

    public int behind(int person, int other) {
        if (!now.has(person) || !now.has(other)) {
            return NONE;
        }
        if (person == other) {
            return BAD;
        }
        if (now.doesCatch(person) || now.doesCatch(other)) {
            return STATE;
        }
        asksAnew();
        trial.puts(person, other);
        return isIn(trial.caughtNext(), person) ? 0 : 1;
    }

    public int see(int bits) {
        if (!now.areAll(bits)) {
            return BAD;
        }
        int was = now.seen;
        now.seen = bits;
        return was;
    }

    public int moved(int person) {
        if (!now.has(person)) {
            return NONE;
        }
        if (!now.doesCatch(person)) {
            return STATE;
        }
        int lanes = 0;
        for (int lane = 0; lane < LANES; lane++) {
            if (caughtFrom(person, lane) == now.seen) {
                lanes |= 1 << lane;
            }
        }
        return lanes;
    }

    // ---- odds, books

    public long odds(int person, int catcher, int part) {
        if (!now.has(person) || !now.has(catcher) || part < 0 || part > 1) {
            return NO;
        }
        if (now.doesCatch(person) || !now.doesCatch(catcher)) {
            return NO;
        }
        int caught = 0;
        for (int lane = 0; lane < LANES; lane++) {
            if (isIn(caughtFrom(catcher, lane), person)) {
                caught++;
            }
        }
        return lowestTerm(caught, LANES, part);
    }

    public long mean(int n, int part) {
        if (n < 1 || n > SHOUTS_AHEAD || part < 0 || part > 1) {
            return NO;
        }
        asksAnew();
        int together = 0;
        for (int i = 0; i < n; i++) {
            trial.goesOn();
            together += Integer.bitCount(trial.group.running());
        }
        return lowestTerm(together, n, part);
    }

    public int book(int bits) {
        if (bits == -1) {
            now.pageCount = 0;
            return 0;
        }
        if (!now.areAll(bits)) {
            return BAD;
        }
        if (now.pageCount >= BOOK) {
            return FULL;
        }
        now.pages[now.pageCount] = bits;
        now.pageCount++;
        return now.pageCount;
    }

    public int looked() {
        asksAnew();
        for (int i = 0; i < BOOK && i < now.pageCount; i++) {
            if (trial.goesOn() != now.pages[i]) {
                // The BOOK's SHOUTS are told as 1, 2, 3 ..
                return i + 1;
            }
        }
        return NOBODY;
    }

    // ---- judging, the image, acts, tapes

    public int judge(int tape, int i) {
        if (!tapes.exists(tape)) {
            return NONE;
        }
        if (tapes.sort[tape] != Tapes.HOLDS_NOTHING && tapes.sort[tape] != Tapes.BOOLEANS) {
            return CAST;
        }
        for (int p = 0; p < now.size; p++) {
            long place = (long) i + p;
            if (i < 0 || !tapes.hasPlace(tape, place)) {
                return 100 + p;
            }
            boolean runs = tapes.rows[tape][(int) place] != 0;
            if (runs == now.doesCatch(p)) {
                return p;
            }
        }
        return NOBODY;
    }

    public int image() {
        kept.becomes(now);
        imaged = true;
        return now.size;
    }

    public int undo() {
        if (!imaged) {
            return STATE;
        }
        now.becomes(kept);
        return now.size;
    }

    public int act(int person, int act, int x) {
        acts.bodies = 0;
        if (!now.has(person) || act < 0 || act > 2) {
            return 0;
        }
        acts.person = person;
        acts.kind = now.kind[person];
        acts.v = now.v[person];
        return acts.does(act, acts.kind, x, 0);
    }

    public int trace(int i) {
        return i >= 0 && i < Acts.KEPT && i < acts.bodies ? acts.numbers[i] : NONE;
    }

    public int taken(int person, int k) {
        if (k < 0 || k >= KINDS) {
            return BAD;
        }
        if (!now.has(person)) {
            return NOTHING;
        }
        int kind = now.kind[person];
        int above = kind;
        for (int i = 0; i < KINDS && above >= 0 && above < KINDS; i++) {
            if (above == k) {
                return kind;
            }
            above = ABOVE[above];
        }
        return CAST;
    }

    public int count(int what) {
        switch (what) {
            case 0: return now.size;
            case 1: return yardCount;
            case 2: return now.pageCount;
            case 3: return reader.size;
            case 4: return acts.bodies;
            default: return BAD;
        }
    }

    public int tape(int tape, int sort, int n) {
        if (!tapes.exists(tape)) {
            return NONE;
        }
        if (sort == Tapes.HOLDS_NOTHING) {
            tapes.becomes(tape, sort, 0);
            return 1;
        }
        if (sort < 0 || sort > Tapes.BOOLEANS || n > Tapes.LONGEST) {
            return BAD;
        }
        if (n < 0) {
            return SIZE;
        }
        tapes.becomes(tape, sort, n);
        return 1;
    }

    public int item(int tape, int i, long v) {
        if (!tapes.exists(tape)) {
            return NONE;
        }
        if (tapes.sort[tape] == Tapes.HOLDS_NOTHING) {
            return NOTHING;
        }
        if (!tapes.hasPlace(tape, i)) {
            return PLACE;
        }
        tapes.rows[tape][i] = Tapes.asSort(tapes.sort[tape], v);
        return 1;
    }

    public long read(int tape, int i) {
        return tapes.exists(tape) && tapes.hasPlace(tape, i) ? tapes.rows[tape][i] : NO;
    }

    public int shift(int tape, int i, int other, int j, int n) {
        if (!tapes.exists(tape) || !tapes.exists(other)) {
            return NONE;
        }
        if (tapes.sort[tape] == Tapes.HOLDS_NOTHING || tapes.sort[other] == Tapes.HOLDS_NOTHING) {
            return NOTHING;
        }
        if (tapes.sort[tape] != tapes.sort[other]) {
            return CAST;
        }
        if (!tapes.hasPart(tape, i, n) || !tapes.hasPart(other, j, n)) {
            return PLACE;
        }
        System.arraycopy(tapes.rows[tape], i, tapes.rows[other], j, n);
        return n;
    }

    // ---- what several calls need

    /** WAY, REACH, HOLD or SLIP of one; -5, if it is none of those who have that. */
    private int measured(int person, int what) {
        asksAnew();
        trial.caughtNext();
        if (now.doesCatch(person)) {
            return what == 7 ? trial.reach[person] : what == 8 ? trial.hold[person] : NOBODY;
        }
        return what == 6 ? trial.way[person] : what == 9 ? trial.slip[person] : NOBODY;
    }

    /** From here on things are asked of a copy, so that nothing changes. */
    private void asksAnew() {
        int held = now.holding;
        trial.starts(now, held >= 0 && held < YARDS ? yards[held] : bare);
    }

    /** Who is caught at the next shout, if one who catches stands on a lane. */
    private int caughtFrom(int catcher, int lane) {
        asksAnew();
        trial.group.lane[catcher] = lane;
        return trial.caughtNext();
    }

    private static boolean isDigit(int n) {
        return n >= 0 && n <= TOP;
    }

    private static boolean isLane(int n) {
        return n >= 0 && n < LANES;
    }

    private static boolean isIn(int bits, int p) {
        return (bits >> p & 1) == 1;
    }

    private static int firstIn(int bits) {
        for (int p = 0; p < PEOPLE; p++) {
            if (isIn(bits, p)) {
                return p;
            }
        }
        return NOBODY;
    }

    /** How many rows of so many lanes there are. */
    private static int laneRows(int length) {
        int rows = 1;
        for (int i = 0; i < length; i++) {
            rows *= LANES;
        }
        return rows;
    }

    private static long lowestTerm(int above, int below, int part) {
        int divisor = below;
        int rest = above;
        for (int i = 0; i < 64 && rest != 0; i++) {
            int next = divisor % rest;
            divisor = rest;
            rest = next;
        }
        if (divisor == 0) {
            return NO;
        }
        return part == 0 ? above / divisor : below / divisor;
    }

    /** All that the image keeps: how people are, the shouts, what was told by hand, which yard holds. */
    private static final class Group {
        private int size;
        private final int[] kind = new int[PEOPLE];
        private final int[] v = new int[PEOPLE];
        private final int[] lane = new int[PEOPLE];
        private final int[] pace = new int[PEOPLE];
        private final int[] strength = new int[PEOPLE];
        /** The ROWS of TOLD ones, one behind the other. */
        private final int[] turns = new int[PEOPLE * PARTS];
        private int catching;
        private int shouts;
        private int seen;
        private final int[] pages = new int[BOOK];
        private int pageCount;
        private int holding = -1;

        private boolean has(int person) {
            return person >= 0 && person < size && person < PEOPLE;
        }

        private boolean doesCatch(int person) {
            return isIn(catching, person);
        }

        private int everyone() {
            return (1 << size) - 1;
        }

        private int running() {
            return everyone() & ~catching;
        }

        private boolean areAll(int bits) {
            return (bits & ~everyone()) == 0;
        }

        /** The number; FULL. Those who were undone left nothing here: the image's free places are as new. */
        private int joins(int itsKind, int itsV, int itsLane, int itsPace, int itsStrength) {
            int p = size;
            if (p < 0 || p >= PEOPLE) {
                return FULL;
            }
            kind[p] = itsKind;
            v[p] = itsV;
            lane[p] = itsLane;
            pace[p] = itsPace;
            strength[p] = itsStrength;
            size++;
            return p;
        }

        /** Those who catch stand on the row-th of all rows of lanes, the last one's lane going first. */
        private void spreadsOut(int row) {
            int left = row;
            for (int p = PEOPLE - 1; p >= 0; p--) {
                if (isIn(catching, p)) {
                    lane[p] = Math.floorMod(left, LANES);
                    left = left / LANES;
                }
            }
        }

        private void becomes(Group other) {
            size = other.size;
            System.arraycopy(other.kind, 0, kind, 0, PEOPLE);
            System.arraycopy(other.v, 0, v, 0, PEOPLE);
            System.arraycopy(other.lane, 0, lane, 0, PEOPLE);
            System.arraycopy(other.pace, 0, pace, 0, PEOPLE);
            System.arraycopy(other.strength, 0, strength, 0, PEOPLE);
            System.arraycopy(other.turns, 0, turns, 0, PEOPLE * PARTS);
            catching = other.catching;
            shouts = other.shouts;
            seen = other.seen;
            System.arraycopy(other.pages, 0, pages, 0, BOOK);
            pageCount = other.pageCount;
            holding = other.holding;
        }
    }

    /** Shouts on a copy of how all is, with what is asked laid over it. */
    private static final class Crossing {
        private final Group group = new Group();
        private Yard yard = new Yard();
        private final int[] facts = new int[Yard.LETTERS];
        /** Who reaches each lane, as bits. */
        private final int[] reachers = new int[LANES];
        private final int[] reach = new int[PEOPLE];
        private final int[] hold = new int[PEOPLE];
        private final int[] way = new int[PEOPLE];
        private final int[] slip = new int[PEOPLE];
        private final int[] order = new int[PEOPLE];
        /** Those who are not there, who catch, and who run, as bits. */
        private int absent;
        private int catchers;
        private int runners;
        private boolean handsOut;
        /** One who is sent to a lane; -1: nobody is. */
        private int sent;
        private int sentTo;
        /** One who is put just behind another; -1: nobody is. */
        private int follower;
        private int leader;

        private void starts(Group from, Yard holding) {
            group.becomes(from);
            yard = holding;
            absent = 0;
            handsOut = false;
            sent = -1;
            follower = -1;
        }

        private void sends(int person, int lane) {
            sent = person;
            sentTo = lane;
        }

        private void puts(int person, int behindWhom) {
            follower = person;
            leader = behindWhom;
        }

        /** One shout: who is caught, and catches from then on. */
        private int goesOn() {
            int caught = caughtNext();
            group.catching |= caught;
            group.shouts++;
            return caught;
        }

        private int caughtNext() {
            catchers = group.catching & ~absent;
            runners = group.running() & ~absent;
            measuresCatchers();
            choosesWays();
            measuresRunners();
            int running = linesUp();
            int busy = 0;
            int caught = 0;
            for (int i = 0; i < running && i < PEOPLE; i++) {
                int p = order[i];
                int meets = reachersOf(way[p]) & ~busy;
                if (holdOf(meets) > slip[p]) {
                    caught |= 1 << p;
                    busy |= meets;
                }
            }
            return caught;
        }

        private void measuresCatchers() {
            Arrays.fill(reachers, handsOut ? catchers : 0);
            for (int p = 0; p < PEOPLE; p++) {
                if (isIn(catchers, p)) {
                    learns(p, group.lane[p]);
                    reach[p] = yard.has(Yard.REACH) ? yard.together(Yard.REACH, facts) : 1;
                    hold[p] = group.strength[p] + yard.together(Yard.HOLD, facts);
                    reachesOut(p);
                }
            }
        }

        private void reachesOut(int p) {
            for (int lane = 0; lane < LANES; lane++) {
                if (Math.abs(lane - group.lane[p]) <= reach[p]) {
                    reachers[lane] |= 1 << p;
                }
            }
        }

        /** Goes behind measuresCatchers: who seeks looks at what they reach. */
        private void choosesWays() {
            for (int p = 0; p < PEOPLE; p++) {
                if (isIn(runners, p)) {
                    way[p] = p == sent ? sentTo : wayOf(p);
                }
            }
            if (group.has(follower) && group.has(leader)) {
                way[follower] = way[leader];
            }
        }

        /** Goes behind choosesWays: how one dodges may depend on its way. */
        private void measuresRunners() {
            for (int p = 0; p < PEOPLE; p++) {
                if (isIn(runners, p)) {
                    learns(p, way[p]);
                    slip[p] = group.strength[p] + group.pace[p] + yard.together(Yard.DODGE, facts)
                        + (group.kind[p] == DASHING ? group.v[p] : 0);
                }
            }
        }

        private int wayOf(int p) {
            int own = group.lane[p];
            switch (group.kind[p]) {
                case EDGED: case DASHING: return own <= 3 ? 0 : LANES - 1;
                case SHIELDED: return strongestLane(p);
                case SEEKING: return loneliestLane(own);
                case TOLD: return group.turns[p * PARTS + Math.floorMod(group.shouts, PARTS)];
                default: return own;
            }
        }

        private int strongestLane(int p) {
            int others = runners & ~(1 << p);
            int strongest = -1;
            int lane = group.lane[p];
            for (int q = 0; q < PEOPLE; q++) {
                if (isIn(others, q) && group.strength[q] > strongest) {
                    strongest = group.strength[q];
                    lane = group.lane[q];
                }
            }
            return lane;
        }

        private int loneliestLane(int own) {
            int best = 0;
            int fewest = PEOPLE + 1;
            int nearest = LANES;
            for (int lane = 0; lane < LANES; lane++) {
                int many = Integer.bitCount(reachers[lane]);
                int away = Math.abs(lane - own);
                if (many < fewest || many == fewest && away < nearest) {
                    best = lane;
                    fewest = many;
                    nearest = away;
                }
            }
            return best;
        }

        private int reachersOf(int lane) {
            return isLane(lane) ? reachers[lane] : 0;
        }

        private int holdOf(int those) {
            int together = 0;
            for (int p = 0; p < PEOPLE; p++) {
                if (isIn(those, p)) {
                    together += hold[p];
                }
            }
            return together;
        }

        /** Puts all who run one behind the other: how many they are. */
        private int linesUp() {
            int many = 0;
            for (int p = 0; p < PEOPLE; p++) {
                if (isIn(runners, p) && p != follower) {
                    many = stepsIn(p, many);
                }
            }
            return follower < 0 ? many : followsIn(many);
        }

        /** One steps in ahead of those who go later than it does. */
        private int stepsIn(int p, int many) {
            int at = Math.min(many, PEOPLE - 1);
            for (; at > 0 && haste(order[at - 1]) < haste(p); at--) {
                order[at] = order[at - 1];
            }
            order[at] = p;
            return many + 1;
        }

        private int followsIn(int many) {
            int at = Math.min(many, PEOPLE - 1);
            for (; at > 0 && order[at - 1] != leader; at--) {
                order[at] = order[at - 1];
            }
            order[at] = follower;
            return many + 1;
        }

        private int haste(int p) {
            boolean waits = group.kind[p] == WAITING || group.kind[p] == TOLD;
            return waits ? group.pace[p] : group.pace[p] + TOP + 1;
        }

        private void learns(int p, int lane) {
            facts[0] = p;
            facts[1] = group.kind[p];
            facts[2] = lane;
            facts[3] = group.strength[p];
            facts[4] = group.pace[p];
            facts[5] = Math.floorMod(group.shouts, 10);
        }
    }

    /** The clauses of one yard; what each asks for stands in marks: tests and, behind what they join, joints. */
    private static final class Yard {
        private static final int REACH = 0, HOLD = 1, DODGE = 2;
        private static final int NOT = -1, AND = -2, OR = -3;
        private static final int CLAUSES = 10, LETTERS = 6, RELATIONS = 3, NUMBERS = 100;

        private int size;
        private final int[] word = new int[CLAUSES];
        private final int[] n = new int[CLAUSES];
        /** Where the marks of each clause end. */
        private final int[] end = new int[CLAUSES];
        /** Each mark has a byte of its own in the text, so there are no more than that. */
        private final int[] marks = new int[TEXT];
        private int markCount;

        private void clears() {
            size = 0;
            markCount = 0;
        }

        private void adds(int mark) {
            if (markCount < TEXT) {
                marks[markCount] = mark;
                markCount++;
            }
        }

        private void closes(int itsWord, int itsN) {
            if (size < CLAUSES) {
                word[size] = itsWord;
                n[size] = itsN;
                end[size] = markCount;
                size++;
            }
        }

        private boolean has(int which) {
            for (int c = 0; c < size && c < CLAUSES; c++) {
                if (word[c] == which) {
                    return true;
                }
            }
            return false;
        }

        private int together(int which, int[] facts) {
            int sum = 0;
            int from = 0;
            for (int c = 0; c < size && c < CLAUSES; c++) {
                if (word[c] == which && isTrue(from, end[c], facts)) {
                    sum += n[c];
                }
                from = end[c];
            }
            return sum;
        }

        private boolean isTrue(int from, int to, int[] facts) {
            // The lowest bit is the newest value; some nesting of 4 never needs 64 of them.
            long values = 0;
            for (int m = Math.max(from, 0); m < to && m < TEXT; m++) {
                int mark = marks[m];
                long top = values & 1;
                if (mark == NOT) {
                    values ^= 1;
                } else if (mark == AND) {
                    values = values >> 1 & ~(1 - top);
                } else if (mark == OR) {
                    values = values >> 1 | top;
                } else {
                    values = values << 1 | (passes(mark, facts) ? 1 : 0);
                }
            }
            return (values & 1) == 1;
        }

        private static int testMark(int letter, int relation, int number) {
            return (letter * RELATIONS + relation) * NUMBERS + number;
        }

        private static boolean passes(int mark, int[] facts) {
            int letter = mark / NUMBERS / RELATIONS;
            if (letter < 0 || letter >= facts.length) {
                return false;
            }
            int fact = facts[letter];
            int number = mark % NUMBERS;
            switch (mark / NUMBERS % RELATIONS) {
                case 0: return fact < number;
                case 1: return fact == number;
                default: return fact > number;
            }
        }
    }

    /** THE TEXT, and how a yard is read from it: each part leaves the place at the first byte that is wrong. */
    private static final class TextReader {
        private static final int DEEPEST = 4;
        private static final String LETTERS = "pklsay", RELATIONS = "<=>";

        private final int[] signs = new int[TEXT];
        private int size;
        private int place;
        private Yard yard = new Yard();

        private boolean takesIn(int sign) {
            if (size < 0 || size >= TEXT) {
                return false;
            }
            signs[size] = sign;
            size++;
            return true;
        }

        /** The fault; -1: there is none. */
        private int readsInto(Yard target) {
            yard = target;
            yard.clears();
            place = 0;
            boolean right = readsClause();
            for (int i = 1; i < Yard.CLAUSES && right && place < size; i++) {
                right = takes(';') && readsClause();
            }
            return right && place == size ? -1 : place;
        }

        private boolean readsClause() {
            int word = readsWord();
            if (word < 0 || !takes(' ')) {
                return false;
            }
            int n = readsNumber();
            if (n < 0 || !takes(' ') || !readsEither(0)) {
                return false;
            }
            yard.closes(word, n);
            return true;
        }

        private int readsWord() {
            if (takes('r')) {
                return takesAll("each") ? Yard.REACH : -1;
            }
            if (takes('h')) {
                return takesAll("old") ? Yard.HOLD : -1;
            }
            return takes('d') && takesAll("odge") ? Yard.DODGE : -1;
        }

        /** One or two digits; -1: there is none. */
        private int readsNumber() {
            int number = 0;
            int digits = 0;
            for (; digits < 2 && isWithin() && signs[place] >= '0' && signs[place] <= '9'; digits++) {
                number = number * 10 + signs[place] - '0';
                place++;
            }
            return digits == 0 ? -1 : number;
        }

        /** E. */
        private boolean readsEither(int depth) {
            boolean right = readsBoth(depth);
            for (int i = 0; i < TEXT && right && takes('|'); i++) {
                right = readsBoth(depth);
                yard.adds(Yard.OR);
            }
            return right;
        }

        /** T. */
        private boolean readsBoth(int depth) {
            boolean right = readsOne(depth);
            for (int i = 0; i < TEXT && right && takes('&'); i++) {
                right = readsOne(depth);
                yard.adds(Yard.AND);
            }
            return right;
        }

        /** F; the depth is how many ( and ! stand around it. */
        private boolean readsOne(int depth) {
            if (depth < DEEPEST && takes('!')) {
                boolean right = readsOne(depth + 1);
                yard.adds(Yard.NOT);
                return right;
            }
            if (depth < DEEPEST && takes('(')) {
                return readsEither(depth + 1) && takes(')');
            }
            int letter = takesOneOf(LETTERS);
            int relation = letter < 0 ? -1 : takesOneOf(RELATIONS);
            int number = relation < 0 ? -1 : readsNumber();
            if (number < 0) {
                return false;
            }
            yard.adds(Yard.testMark(letter, relation, number));
            return true;
        }

        private boolean isWithin() {
            return place >= 0 && place < size && place < TEXT;
        }

        private boolean takes(char sign) {
            if (!isWithin() || signs[place] != sign) {
                return false;
            }
            place++;
            return true;
        }

        private boolean takesAll(String rest) {
            for (int i = 0; i < rest.length(); i++) {
                if (!takes(rest.charAt(i))) {
                    return false;
                }
            }
            return true;
        }

        /** Which of the choices comes next; -1: none. */
        private int takesOneOf(String choices) {
            int which = isWithin() ? choices.indexOf((char) signs[place]) : -1;
            if (which >= 0) {
                place++;
            }
            return which;
        }
    }

    /** The acts of one person, and the trace of the latest. */
    private static final class Acts {
        private static final int RUNS = 0, HOLDS = 1, TELLS = 2;
        private static final int KEPT = 20, DEEPEST = 40;
        /** The body of each act (a line each) of each KIND; 0: it has none. */
        private static final int[] BODIES = {
            10, 0, 30, 0, 50, 0, 71,
            11, 20, 0, 0, 51, 0, 70,
            12, 0, 0, 40, 0, 60, 0,
        };

        private int person;
        private int kind;
        private int v;
        private final int[] numbers = new int[KEPT];
        private int bodies;

        /** An act with x, its body looked for from a KIND upwards. */
        private int does(int act, int from, int x, int depth) {
            int owner = ownerOf(act, from);
            if (owner < 0 || owner >= KINDS || depth > DEEPEST) {
                return 0;
            }
            int body = BODIES[act * KINDS + owner];
            int above = ABOVE[owner];
            int deeper = depth + 1;
            begins(body);
            switch (body) {
                case 10: return x + person;
                case 11: return does(RUNS, kind, x, deeper) - v;
                case 12: return does(HOLDS, kind, x, deeper) * 2;
                case 20: return does(HOLDS, above, x, deeper) ^ 6;
                case 30: return does(RUNS, above, x * 3, deeper);
                case 40: return does(TELLS, above, x, deeper) + does(HOLDS, kind, 1, deeper);
                case 50: return -does(RUNS, above, x, deeper);
                case 51: return does(HOLDS, above, x + 1, deeper);
                case 60: return does(TELLS, above, x - person, deeper);
                case 70: return does(HOLDS, above, x, deeper) + does(RUNS, above, 2, deeper);
                case 71: return does(RUNS, above, x, deeper) ^ v;
                default: return 0;
            }
        }

        private static int ownerOf(int act, int from) {
            if (act < RUNS || act > TELLS) {
                return -1;
            }
            int owner = from;
            for (int i = 0; i < KINDS && owner >= 0 && owner < KINDS; i++) {
                if (BODIES[act * KINDS + owner] != 0) {
                    return owner;
                }
                owner = ABOVE[owner];
            }
            return -1;
        }

        private void begins(int body) {
            if (bodies >= 0 && bodies < KEPT) {
                numbers[bodies] = body;
            }
            bodies++;
        }
    }

    /** The six tapes. */
    private static final class Tapes {
        private static final int MANY = 6, LONGEST = 60;
        private static final int HOLDS_NOTHING = -1, BYTES = 0, SHORTS = 1, INTS = 2, BOOLEANS = 4;

        private final int[] sort = new int[MANY];
        private final int[] length = new int[MANY];
        private final long[][] rows = new long[MANY][LONGEST];

        private Tapes() {
            Arrays.fill(sort, HOLDS_NOTHING);
        }

        private boolean exists(int tape) {
            return tape >= 0 && tape < MANY;
        }

        /** A tape that holds nothing has no place. */
        private boolean hasPlace(int tape, long place) {
            return exists(tape) && place >= 0 && place < length[tape] && place < LONGEST;
        }

        private boolean hasPart(int tape, int from, int n) {
            return exists(tape) && from >= 0 && n >= 0 && (long) from + n <= length[tape];
        }

        private void becomes(int tape, int itsSort, int n) {
            if (exists(tape)) {
                sort[tape] = itsSort;
                length[tape] = n;
                Arrays.fill(rows[tape], 0L);
            }
        }

        private static long asSort(int itsSort, long value) {
            switch (itsSort) {
                case BYTES: return (byte) value;
                case SHORTS: return (short) value;
                case INTS: return (int) value;
                case BOOLEANS: return value != 0 ? 1 : 0;
                default: return value;
            }
        }
    }
}
