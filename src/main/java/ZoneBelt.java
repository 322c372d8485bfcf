/** A keeper of a zone conveyor: two lines of zones, their eyes, motors, cartons and jams. */
public final class ZoneBelt {
    public static final int UNKNOWN = -1, OUTSIDE = -2, STATE = -3, FULL = -4, NONE = -9;

    private static final int FACTS_OF_ZONE = 7;
    private static final int MOST_STEPS = 99;
    private static final int MOST_ACTS = 14;
    private static final int SLOTS = 2;
    private static final int FAR_AHEAD = 60;
    private static final int MOST_DOINGS = 4;
    private static final int SHARED_STEPS = 20;
    private static final int MOST_UNSOUND = 6;
    private static final int MOST_CHANCES = 8;
    private static final int TENTHS = 10;
    private static final int MOST_DRAWN = 40;
    private static final int[] FACTORIALS = {1, 1, 2, 6, 24, 120, 720};
    private static final long[] THOUSANDS = {1L, 1000L, 1000000L, 1000000000L, 1000000000000L};
    private static final long SEED_FACTOR = 6364136223846793005L;
    private static final long SEED_SUMMAND = 1442695040888963407L;

    private final Text text;
    private final Belt now;
    /** What is only asked is tried out on this one, so that nothing of the belt changes. */
    private final Belt trial;
    private final Acts acts;
    private final Store slots;
    private int keptSlots;
    private final Store branches;
    private final Sightings sightings;
    private final int[] doings;
    private final int[] unsound;
    private final int[] outIfMended;
    private long seedNow;

    public ZoneBelt() {
        text = new Text();
        now = new Belt();
        trial = new Belt();
        acts = new Acts();
        slots = new Store(SLOTS);
        keptSlots = 0;
        branches = new Store(MOST_CHANCES + 1);
        sightings = new Sightings();
        doings = new int[MOST_DOINGS];
        unsound = new int[MOST_UNSOUND];
        outIfMended = new int[1 << MOST_UNSOUND];
        seedNow = 0L;
    }

    // ---- the belt

    public int write(int letter) {
        if (letter < 0 || letter > 255) {
            return OUTSIDE;
        }
        return text.append(letter) ? text.length : FULL;
    }

    public int wipe() {
        int was = text.length;
        text.length = 0;
        return was;
    }

    public int fault() {
        return text.firstFault();
    }

    public int belt() {
        if (text.firstFault() != NONE) {
            return STATE;
        }
        text.layOut(now);
        acts.forgetAll();
        keptSlots = 0;
        return now.zones;
    }

    public int zone(int zone, int what) {
        if (!now.hasZone(zone)) {
            return UNKNOWN;
        }
        return factOf(now, zone, what);
    }

    // ---- acts

    public int feed(int line) {
        if (!now.hasLine(line)) {
            return UNKNOWN;
        }
        if (now.hasCarton(now.entryOf(line))) {
            return STATE;
        }
        if (!now.canFeed(line)) {
            return FULL;
        }
        acts.remember(now);
        return now.putNext(now.entryOf(line));
    }

    public int lift(int zone) {
        if (!now.hasZone(zone)) {
            return UNKNOWN;
        }
        if (!now.hasCarton(zone)) {
            return STATE;
        }
        acts.remember(now);
        return now.takeAway(zone);
    }

    public int turn() {
        acts.remember(now);
        return now.turnExit();
    }

    public int eye(int zone, int eye) {
        if (!now.hasZone(zone)) {
            return UNKNOWN;
        }
        if (!Belt.isEye(eye)) {
            return OUTSIDE;
        }
        acts.remember(now);
        return now.change(Belt.EYE + zone, eye);
    }

    public int make(int what, int v) {
        if (what < 0 || what > 1 || v < 0 || v > (what == 0 ? 1 : Belt.MOST_REST)) {
            return OUTSIDE;
        }
        acts.remember(now);
        return now.change(what == 0 ? Belt.TRAIN : Belt.REST, v);
    }

    public int clear(int zone) {
        if (!now.hasZone(zone)) {
            return UNKNOWN;
        }
        if (!now.isJammed(zone)) {
            return STATE;
        }
        acts.remember(now);
        now.freeJam(zone);
        return Integer.bitCount(now.cells[Belt.JAMMED]);
    }

    public int step(int n) {
        if (n < 1 || n > MOST_STEPS) {
            return OUTSIDE;
        }
        acts.remember(now);
        int before = now.cells[Belt.OUT];
        now.advance(n);
        return now.cells[Belt.OUT] - before;
    }

    public int undo() {
        return acts.takeBack(now) ? acts.size : STATE;
    }

    // ---- asked

    public int ahead(int n, int zone, int what) {
        if (!now.hasZone(zone)) {
            return UNKNOWN;
        }
        if (n < 0 || n > MOST_STEPS || what < 0 || what >= FACTS_OF_ZONE) {
            return OUTSIDE;
        }
        trial.copy(now);
        trial.advance(n);
        return factOf(trial, zone, what);
    }

    public int ask(int what) {
        switch (what) {
            case 0:
                trial.copy(now);
                return stepsTillEmpty();
            case 1:
                return bestRest();
            case 2:
                trial.copy(now);
                trial.advance(FAR_AHEAD);
                return trial.cells[Belt.OUT] - now.cells[Belt.OUT];
            default:
                return OUTSIDE;
        }
    }

    public int row(int place) {
        if (place < 0 || place >= FAR_AHEAD) {
            return NONE;
        }
        int wanted = now.cells[Belt.OUT] + place + 1;
        trial.copy(now);
        for (int i = 0; i < FAR_AHEAD; i++) {
            trial.advanceOnce();
            if (trial.cells[Belt.OUT] == wanted) {
                return trial.justOut;
            }
        }
        return NONE;
    }

    public int judge(int n, long row) {
        if (n < 1 || n > MOST_DOINGS || row < 0L || row >= THOUSANDS[n]) {
            return OUTSIDE;
        }
        long rest = row;
        for (int place = n - 1; place >= 0; place--) {
            doings[place] = (int) (rest % 1000L);
            rest /= 1000L;
        }
        trial.copy(now);
        for (int place = 0; place < n; place++) {
            if (!holds(trial, doings[place])) {
                return place;
            }
        }
        return NONE;
    }

    // ---- seen

    public int see(int n, int v, int was) {
        if (n < 0 || n > Sightings.LATEST || v < 0 || v > 99 || was < 0 || was > 1) {
            return OUTSIDE;
        }
        return sightings.append(n, v, was) ? sightings.size : FULL;
    }

    public int unsee() {
        int were = sightings.size;
        sightings.size = 0;
        return were;
    }

    public int which() {
        int fitting = 0;
        for (int zone = 0; zone < now.zones; zone++) {
            if (now.cells[Belt.EYE + zone] == Belt.SOUND) {
                trial.copy(now);
                trial.cells[Belt.EYE + zone] = Belt.DARK;
                if (sightings.allSo(trial)) {
                    fitting |= 1 << zone;
                }
            }
        }
        return fitting;
    }

    // ---- shares, chances

    public int share(int zone, boolean upper) {
        if (!now.hasZone(zone)) {
            return UNKNOWN;
        }
        int sharing = now.countUnsound();
        if (now.cells[Belt.EYE + zone] == Belt.SOUND || sharing > MOST_UNSOUND) {
            return STATE;
        }
        int place = listUnsound(zone);
        for (int mended = 0; mended < 1 << sharing; mended++) {
            outIfMended[mended] = outWith(mended, sharing);
        }
        return fraction(gainInAllOrders(place, sharing), FACTORIALS[sharing], upper);
    }

    public int shut(int n, int x, boolean upper) {
        if (n < 1 || n > MOST_CHANCES || x < 0 || x > TENTHS) {
            return OUTSIDE;
        }
        trial.copy(now);
        return fraction(waysToEmpty(trial, branches, n, x), tenToThe(n), upper);
    }

    public long seed(long v) {
        long was = seedNow;
        seedNow = v;
        return was;
    }

    public int drawn(int m) {
        if (m < 1 || m > MOST_DRAWN) {
            return OUTSIDE;
        }
        trial.copy(now);
        for (int i = 0; i < m; i++) {
            seedNow = seedNow * SEED_FACTOR + SEED_SUMMAND;
            int line = (int) (seedNow >>> 33) % 3;
            if (trial.canFeed(line)) {
                trial.putNext(trial.entryOf(line));
            }
            trial.advanceOnce();
        }
        return trial.cells[Belt.OUT] - now.cells[Belt.OUT];
    }

    // ---- places to keep in

    public int keep(int slot) {
        if (slot < 0 || slot >= SLOTS) {
            return UNKNOWN;
        }
        slots.put(slot, now);
        keptSlots |= 1 << slot;
        return now.cells[Belt.CLOCK];
    }

    public int again(int slot) {
        if (slot < 0 || slot >= SLOTS) {
            return UNKNOWN;
        }
        if (!Belt.in(keptSlots, slot)) {
            return STATE;
        }
        slots.get(slot, now);
        acts.forgetAll();
        return now.cells[Belt.CLOCK];
    }

    public int count(int what) {
        switch (what) {
            case 0:
                return text.length;
            case 1:
                return now.mainZones;
            case 2:
                return now.sideZones;
            case 3:
                return now.meeting;
            case 4:
                return now.cells[Belt.TRAIN];
            case 5:
                return now.cells[Belt.REST];
            case 6:
                return now.cells[Belt.OPEN];
            case 7:
                return now.cells[Belt.CLOCK];
            case 8:
                return now.cells[Belt.FED];
            case 9:
                return now.cells[Belt.OUT];
            case 10:
                return now.loaded();
            case 11:
                return now.cells[Belt.JAMMED];
            case 12:
                return now.cells[Belt.ASLEEP];
            case 13:
                return acts.size;
            case 14:
                return sightings.size;
            default:
                return OUTSIDE;
        }
    }

    // ---- how the asked ones are found

    private static int factOf(Belt belt, int zone, int what) {
        switch (what) {
            case 0:
                return belt.hasCarton(zone) ? belt.cells[Belt.CARTON + zone] : NONE;
            case 1:
                return belt.cells[Belt.EYE + zone];
            case 2:
                return Belt.in(belt.seeing(), zone) ? 1 : 0;
            case 3:
                return belt.isJammed(zone) ? 1 : 0;
            case 4:
                return Belt.in(belt.cells[Belt.ASLEEP], zone) ? 1 : 0;
            case 5:
                return belt.cells[Belt.IDLE + zone];
            case 6:
                return belt.cells[Belt.TICKET + zone];
            default:
                return OUTSIDE;
        }
    }

    /** EMPTY of the belt that is tried out, which is run by this. */
    private int stepsTillEmpty() {
        for (int n = 0; n < FAR_AHEAD; n++) {
            if (trial.loaded() == 0) {
                return n;
            }
            trial.advanceOnce();
        }
        return trial.loaded() == 0 ? FAR_AHEAD : NONE;
    }

    private int bestRest() {
        int best = 0;
        int soonest = FAR_AHEAD + 1;
        for (int rest = 0; rest <= Belt.MOST_REST; rest++) {
            trial.copy(now);
            trial.cells[Belt.REST] = rest;
            int steps = stepsTillEmpty();
            if (steps != NONE && steps < soonest) {
                soonest = steps;
                best = rest;
            }
        }
        return best;
    }

    /** Does what is told in three figures, or asks it: whether it can be, or is so. */
    private static boolean holds(Belt belt, int doing) {
        int kind = doing / 100;
        int middle = doing / 10 % 10;
        int last = doing % 10;
        switch (kind) {
            case 1:
                belt.advance(doing % 100);
                return doing % 100 > 0;
            case 2:
                return middle == 0 && feedTold(belt, last);
            case 3:
                return middle == 0 && liftTold(belt, last);
            case 4:
                return middle == 0 && turnTold(belt, last);
            case 5:
                return eyeTold(belt, middle, last);
            case 6:
                return belt.hasZone(middle) && last == (belt.hasCarton(middle) ? 1 : 0);
            case 7:
                return belt.cells[Belt.OUT] == doing % 100;
            case 8:
                return belt.hasZone(middle) && last == (belt.isJammed(middle) ? 1 : 0);
            default:
                return false;
        }
    }

    private static boolean turnTold(Belt belt, int figure) {
        if (figure != 0) {
            return false;
        }
        belt.turnExit();
        return true;
    }

    private static boolean feedTold(Belt belt, int line) {
        if (!belt.canFeed(line)) {
            return false;
        }
        belt.putNext(belt.entryOf(line));
        return true;
    }

    private static boolean liftTold(Belt belt, int zone) {
        if (!belt.hasZone(zone) || !belt.hasCarton(zone)) {
            return false;
        }
        belt.takeAway(zone);
        return true;
    }

    private static boolean eyeTold(Belt belt, int zone, int eye) {
        if (!belt.hasZone(zone) || !Belt.isEye(eye)) {
            return false;
        }
        belt.cells[Belt.EYE + zone] = eye;
        return true;
    }

    /** Lists the zones whose eyes are not sound: the place of the wanted one among them. */
    private int listUnsound(int wanted) {
        int size = 0;
        int place = 0;
        for (int zone = 0; zone < now.zones && size < MOST_UNSOUND; zone++) {
            if (now.cells[Belt.EYE + zone] != Belt.SOUND) {
                if (zone == wanted) {
                    place = size;
                }
                unsound[size] = zone;
                size++;
            }
        }
        return place;
    }

    private int outWith(int mended, int sharing) {
        trial.copy(now);
        for (int i = 0; i < sharing; i++) {
            if (Belt.in(mended, i)) {
                trial.cells[Belt.EYE + unsound[i]] = Belt.SOUND;
            }
        }
        for (int i = 0; i < SHARED_STEPS && trial.loaded() != 0; i++) {
            trial.advanceOnce();
        }
        return trial.cells[Belt.OUT];
    }

    /** What mending the one at this place adds, summed over all orders of mending. */
    private int gainInAllOrders(int place, int sharing) {
        int sum = 0;
        for (int mended = 0; mended < 1 << sharing; mended++) {
            if (!Belt.in(mended, place)) {
                int ahead = Integer.bitCount(mended);
                int orders = FACTORIALS[ahead] * FACTORIALS[sharing - 1 - ahead];
                sum += orders * (outIfMended[mended | (1 << place)] - outIfMended[mended]);
            }
        }
        return sum;
    }

    /** Of the ten to the power of steps ways that are alike in likelihood, those that empty the belt. */
    private static int waysToEmpty(Belt belt, Store branches, int steps, int x) {
        // nothing is fed meanwhile, so an empty belt stays empty in all the ways that are left
        if (belt.loaded() == 0) {
            return tenToThe(steps);
        }
        if (steps < 1 || steps > MOST_CHANCES) {
            return 0;
        }
        int ways = 0;
        branches.put(steps, belt);
        for (int open = 0; open <= 1; open++) {
            int tenths = open == 0 ? x : TENTHS - x;
            if (tenths > 0) {
                branches.get(steps, belt);
                belt.cells[Belt.OPEN] = open;
                belt.advanceOnce();
                ways += tenths * waysToEmpty(belt, branches, steps - 1, x);
            }
        }
        return ways;
    }

    private static int tenToThe(int power) {
        int result = 1;
        for (int i = 0; i < power && i < MOST_CHANCES; i++) {
            result *= TENTHS;
        }
        return result;
    }

    private static int fraction(int above, int below, boolean upper) {
        int common = commonDivisor(Math.abs(above), below);
        if (common < 1) {
            return 0;
        }
        return upper ? above / common : below / common;
    }

    private static int commonDivisor(int one, int other) {
        int a = one;
        int b = other;
        for (int i = 0; i < 64 && b != 0; i++) {
            int left = a % b;
            a = b;
            b = left;
        }
        return a;
    }

    /** The zones as they stand. What acts can change lies in one row of cells, so that one copy keeps it. */
    private static final class Belt {
        static final int MOST_ZONES = 12;
        static final int MOST_FED = 99;
        static final int MOST_REST = 9;
        static final int SOUND = 0, DARK = 1, LIGHT = 2;
        static final int CARTON = 0, EYE = 12, IDLE = 24, TICKET = 36;
        static final int JAMMED = 48, ASLEEP = 49, OPEN = 50, TRAIN = 51, REST = 52;
        static final int TICKETS = 53, FED = 54, OUT = 55, CLOCK = 56, CELLS = 57;

        int mainZones;
        int sideZones;
        int zones;
        int meeting;
        final int[] cells;
        /** The carton that the last step let out, 0 if there was none. */
        int justOut;

        Belt() {
            mainZones = 2;
            sideZones = 0;
            zones = 2;
            meeting = 1;
            cells = new int[CELLS];
            cells[OPEN] = 1;
            justOut = 0;
        }

        static boolean in(int set, int member) {
            return (set >> member & 1) == 1;
        }

        static boolean isEye(int eye) {
            return eye >= SOUND && eye <= LIGHT;
        }

        void begin(int main, int side, int meets) {
            mainZones = main;
            sideZones = side;
            zones = main + side;
            meeting = meets;
            for (int i = 0; i < CELLS; i++) {
                cells[i] = 0;
            }
            cells[OPEN] = 1;
        }

        void copy(Belt other) {
            mainZones = other.mainZones;
            sideZones = other.sideZones;
            zones = other.zones;
            meeting = other.meeting;
            System.arraycopy(other.cells, 0, cells, 0, CELLS);
        }

        boolean hasZone(int zone) {
            return zone >= 0 && zone < zones && zone < MOST_ZONES;
        }

        boolean hasLine(int line) {
            return line == 0 || line == 1 && sideZones > 0;
        }

        int entryOf(int line) {
            return line == 0 ? 0 : mainZones;
        }

        boolean hasCarton(int zone) {
            return cells[CARTON + zone] != 0;
        }

        boolean isJammed(int zone) {
            return in(cells[JAMMED], zone);
        }

        boolean canFeed(int line) {
            return hasLine(line) && !hasCarton(entryOf(line)) && cells[FED] < MOST_FED;
        }

        int change(int cell, int value) {
            int was = cells[cell];
            cells[cell] = value;
            return was;
        }

        int putNext(int zone) {
            cells[FED]++;
            cells[CARTON + zone] = cells[FED];
            return cells[FED];
        }

        int takeAway(int zone) {
            freeJam(zone);
            return change(CARTON + zone, 0);
        }

        void freeJam(int zone) {
            cells[JAMMED] &= ~(1 << zone);
        }

        int turnExit() {
            cells[OPEN] = 1 - cells[OPEN];
            return cells[OPEN];
        }

        int loaded() {
            int set = 0;
            for (int zone = 0; zone < zones; zone++) {
                if (hasCarton(zone)) {
                    set |= 1 << zone;
                }
            }
            return set;
        }

        int seeing() {
            int set = 0;
            for (int zone = 0; zone < zones; zone++) {
                int eye = cells[EYE + zone];
                if (eye == LIGHT || eye == SOUND && hasCarton(zone)) {
                    set |= 1 << zone;
                }
            }
            return set;
        }

        int countUnsound() {
            int size = 0;
            for (int zone = 0; zone < zones; zone++) {
                if (cells[EYE + zone] != SOUND) {
                    size++;
                }
            }
            return size;
        }

        void advance(int steps) {
            for (int i = 0; i < steps && i < MOST_STEPS; i++) {
                advanceOnce();
            }
        }

        void advanceOnce() {
            int sees = seeing();
            int slept = cells[ASLEEP];
            int wish = sees & ~cells[JAMMED] & ~slept;
            cells[ASLEEP] = slept & ~sees & ~behindThose(wish);
            giveTickets(wish);
            moveThose(settle(wish & ~yielding(wish), ~sees & ~slept));
            tellIdle();
            cells[CLOCK]++;
        }

        /** The zone behind this one, which must not be the last of line 0. */
        private int behind(int zone) {
            return zone == zones - 1 ? meeting : zone + 1;
        }

        private int behindThose(int set) {
            int result = 0;
            for (int zone = 0; zone < zones; zone++) {
                if (in(set, zone) && zone != mainZones - 1) {
                    result |= 1 << behind(zone);
                }
            }
            return result;
        }

        private int feedersOf(int zone) {
            int set = zone == 0 || zone == mainZones ? 0 : 1 << (zone - 1);
            if (zone == meeting && sideZones > 0) {
                set |= 1 << (zones - 1);
            }
            return set;
        }

        private void giveTickets(int wish) {
            giveTicket(wish, meeting - 1);
            if (sideZones > 0) {
                giveTicket(wish, zones - 1);
            }
        }

        private void giveTicket(int wish, int zone) {
            if (in(wish, zone) && cells[TICKET + zone] == 0) {
                cells[TICKETS]++;
                cells[TICKET + zone] = cells[TICKETS];
            }
        }

        /** Of two that feed the meeting zone the one that gives way; for both there is room there, or for none. */
        private int yielding(int wish) {
            int main = meeting - 1;
            int side = zones - 1;
            if (sideZones == 0 || !in(wish, main) || !in(wish, side)) {
                return 0;
            }
            return cells[TICKET + main] < cells[TICKET + side] ? 1 << side : 1 << main;
        }

        /** The zones that go, of those that would; each one's neighbour behind is settled ahead of it. */
        private int settle(int would, int clear) {
            int exit = mainZones - 1;
            int goes = cells[OPEN] == 1 ? would & (1 << exit) : 0;
            for (int zone = exit - 1; zone >= 0; zone--) {
                goes |= goer(zone, would, roomWith(goes, clear));
            }
            for (int zone = zones - 1; zone >= mainZones; zone--) {
                goes |= goer(zone, would, roomWith(goes, clear));
            }
            return goes;
        }

        private int roomWith(int goes, int clear) {
            return cells[TRAIN] == 1 ? clear | goes : clear;
        }

        private int goer(int zone, int would, int room) {
            return in(would, zone) && in(room, behind(zone)) ? 1 << zone : 0;
        }

        private void moveThose(int goes) {
            justOut = 0;
            for (int zone = mainZones - 1; zone >= 0; zone--) {
                if (in(goes, zone)) {
                    handOn(zone);
                }
            }
            for (int zone = zones - 1; zone >= mainZones; zone--) {
                if (in(goes, zone)) {
                    handOn(zone);
                }
            }
        }

        private void handOn(int zone) {
            cells[TICKET + zone] = 0;
            if (!hasCarton(zone)) {
                return;
            }
            if (zone == mainZones - 1) {
                justOut = change(CARTON + zone, 0);
                cells[OUT]++;
            } else if (hasCarton(behind(zone))) {
                cells[JAMMED] |= 1 << zone;
            } else {
                cells[CARTON + behind(zone)] = change(CARTON + zone, 0);
            }
        }

        private void tellIdle() {
            int sees = seeing();
            for (int zone = 0; zone < zones; zone++) {
                if ((sees & ((1 << zone) | feedersOf(zone))) != 0) {
                    cells[IDLE + zone] = 0;
                } else {
                    cells[IDLE + zone]++;
                    if (cells[REST] > 0 && cells[IDLE + zone] >= cells[REST]) {
                        cells[ASLEEP] |= 1 << zone;
                    }
                }
            }
        }
    }

    /** Places for what acts can change of a belt, all of the same length in one row. */
    private static final class Store {
        private final int places;
        private final int[] cells;

        Store(int howMany) {
            places = Math.max(0, howMany);
            cells = new int[places * Belt.CELLS];
        }

        void put(int place, Belt belt) {
            if (place >= 0 && place < places) {
                System.arraycopy(belt.cells, 0, cells, place * Belt.CELLS, Belt.CELLS);
            }
        }

        void get(int place, Belt belt) {
            if (place >= 0 && place < places) {
                System.arraycopy(cells, place * Belt.CELLS, belt.cells, 0, Belt.CELLS);
            }
        }
    }

    /** How the belt stood ahead of each of the last acts, in a ring. */
    private static final class Acts {
        private final Store before;
        private int next;
        int size;

        Acts() {
            before = new Store(MOST_ACTS);
            next = 0;
            size = 0;
        }

        void remember(Belt belt) {
            before.put(next, belt);
            next = (next + 1) % MOST_ACTS;
            size = Math.min(size + 1, MOST_ACTS);
        }

        boolean takeBack(Belt belt) {
            if (size == 0) {
                return false;
            }
            next = (next + MOST_ACTS - 1) % MOST_ACTS;
            size--;
            before.get(next, belt);
            return true;
        }

        void forgetAll() {
            size = 0;
        }
    }

    /** What was seen to be out behind so many steps, or not. */
    private static final class Sightings {
        static final int MOST = 6;
        static final int LATEST = 30;

        private final int[] behindSteps;
        private final int[] outs;
        private final int[] truths;
        int size;

        Sightings() {
            behindSteps = new int[MOST];
            outs = new int[MOST];
            truths = new int[MOST];
            size = 0;
        }

        boolean append(int steps, int out, int truth) {
            if (size >= MOST) {
                return false;
            }
            behindSteps[size] = steps;
            outs[size] = out;
            truths[size] = truth;
            size++;
            return true;
        }

        /** Whether all of them are so of this belt, which is run by this. */
        boolean allSo(Belt belt) {
            int last = latest();
            for (int steps = 0; steps <= last; steps++) {
                if (!soBehind(steps, belt.cells[Belt.OUT])) {
                    return false;
                }
                belt.advanceOnce();
            }
            return true;
        }

        private int latest() {
            int last = -1;
            for (int i = 0; i < size; i++) {
                last = Math.max(last, behindSteps[i]);
            }
            return last;
        }

        private boolean soBehind(int steps, int out) {
            for (int i = 0; i < size; i++) {
                if (behindSteps[i] == steps && (outs[i] == out ? 1 : 0) != truths[i]) {
                    return false;
                }
            }
            return true;
        }
    }

    /** The text that tells a belt. */
    private static final class Text {
        static final int MOST = 40;
        static final int HEAD = 6;
        static final int PER_CARTON = 3;

        private final int[] letters;
        int length;

        Text() {
            letters = new int[MOST];
            length = 0;
        }

        boolean append(int letter) {
            if (length >= MOST) {
                return false;
            }
            letters[length] = letter;
            length++;
            return true;
        }

        int firstFault() {
            int taken = 0;
            for (int place = 0; place < length; place++) {
                if (!fits(place, taken)) {
                    return place;
                }
                if (place >= HEAD && place % PER_CARTON == 2) {
                    taken |= 1 << zoneEndingAt(place);
                }
            }
            return length >= HEAD && length % PER_CARTON == 0 ? NONE : length;
        }

        /** Lays out what the text tells; it must be without a fault. */
        void layOut(Belt belt) {
            belt.begin(figure(1), figure(2), figure(3));
            belt.cells[Belt.TRAIN] = figure(4);
            belt.cells[Belt.REST] = figure(5);
            for (int place = HEAD + 2; place < length; place += PER_CARTON) {
                int zone = zoneEndingAt(place);
                if (belt.hasZone(zone)) {
                    belt.putNext(zone);
                }
            }
        }

        private int figure(int place) {
            return letters[place] - '0';
        }

        private int zoneEndingAt(int place) {
            return figure(place - 1) * 10 + figure(place);
        }

        /** Whether a belt can have this letter here, all letters ahead of it being fine. */
        private boolean fits(int place, int taken) {
            switch (place) {
                case 0:
                    return letters[place] == 'Z';
                case 1:
                    return isFigure(place, 2, 8);
                case 2:
                    return isFigure(place, 0, 4);
                case 3:
                    return isFigure(place, 1, figure(1) - 1);
                case 4:
                    return isFigure(place, 0, 1);
                case 5:
                    return isFigure(place, 0, 9);
                default:
                    return fitsCarton(place, ~taken & ((1 << (figure(1) + figure(2))) - 1));
            }
        }

        private boolean isFigure(int place, int least, int most) {
            return figure(place) >= least && figure(place) <= most;
        }

        private boolean fitsCarton(int place, int free) {
            switch (place % PER_CARTON) {
                case 0:
                    return letters[place] == 'c' && free != 0;
                case 1:
                    return isFigure(place, 0, 1) && (free >> (figure(place) * 10) & 1023) != 0;
                default:
                    return isFigure(place, 0, 9) && Belt.in(free, zoneEndingAt(place));
            }
        }
    }
}
