/**
 * Pulls led by cranks to bells, the servants who answer them, the tests by which a fault is
 * named, and the frame through which new wires are laid.
 *
 * The face looks at every number before it goes on; the classes inside take what they are
 * given as looked at. All rows are made with the object, so that no call makes a new one.
 */
public final class BellPulls {
    public static final int BAD = -1, NO = -2, FULL = -3, NONE = -4;

    private static final int CRANKS = 16;
    private static final int DEAD = 10;
    private static final int BELLS = 8;
    private static final int ALL_BELLS = 255;
    private static final int TONES = 6;
    private static final int MOST_HEAT = 40;
    private static final int MOST_PULLS = 12;
    private static final int MOST_CRANKS_OF_PULL = 5;
    private static final int MOST_PAIRS = 4;
    private static final int FLOORS = 4;
    private static final int PLACES = 31;
    private static final int RANKS = 5;
    private static final int LOUD = 2;
    private static final int WEAK = 1;
    private static final int NOTHING = 0;
    private static final int GAP = -1;
    private static final int LOUD_FORCE = 6;
    private static final int MOST_SERVANTS = 5;
    private static final int MOST_TICKS_AT_ONCE = 200;
    private static final int MOST_TICKS = 5000;
    private static final int MOST_SHARED = 4;
    private static final int MOST_TESTS = 12;
    private static final int POINTS = 24;
    private static final int MOST_ENDS = 5;
    private static final int WIRE = 2;

    private final Pulls pulls;
    private final Bells bells;
    private final Wiring wiring;
    private final Servants servants;
    private final Calls calls;
    private final Service service;
    private final Sharing sharing;
    private final Faults faults;
    private final Frame lattice;

    public BellPulls() {
        pulls = new Pulls();
        bells = new Bells();
        wiring = new Wiring(pulls, bells);
        servants = new Servants();
        calls = new Calls();
        service = new Service(pulls, servants, calls);
        sharing = new Sharing(pulls, servants, calls);
        faults = new Faults(pulls);
        lattice = new Frame();
    }

    public int crank(int crank, int v) {
        if (!within(crank, CRANKS) || v < 0 || v > DEAD) {
            return BAD;
        }
        return wiring.setCrank(crank, v);
    }

    public int bell(int bell, int what, int v) {
        if (!within(bell, BELLS)) {
            return BAD;
        }
        if (what == 0 && within(v, TONES)) {
            return bells.setTone(bell, v);
        }
        if (what == 1 && (v == 0 || v == 1)) {
            return bells.setMute(bell, v);
        }
        return BAD;
    }

    public int heat(int v) {
        if (v < 0 || v > MOST_HEAT) {
            return BAD;
        }
        int was = wiring.heatNow;
        wiring.heatNow = v;
        return was;
    }

    public int pull(int floor, int place, int rank, int bell, int cranks) {
        if (!within(floor, FLOORS) || !within(place, PLACES) || !within(rank, RANKS)
                || !within(bell, BELLS) || !within(cranks, 1 << CRANKS)) {
            return BAD;
        }
        int many = Integer.bitCount(cranks);
        if (many < 1 || many > MOST_CRANKS_OF_PULL) {
            return BAD;
        }
        if (pulls.size >= MOST_PULLS) {
            return FULL;
        }
        return pulls.add(floor, place, rank, bell, cranks);
    }

    public int cross(int a, int b) {
        if (!within(a, CRANKS) || !within(b, CRANKS) || a == b) {
            return BAD;
        }
        if (wiring.areCrossed(a, b)) {
            return NO;
        }
        if (wiring.pairs >= MOST_PAIRS) {
            return FULL;
        }
        return wiring.addPair(a, b);
    }

    public int uncross() {
        return wiring.dropPairs();
    }

    public int force(int pull) {
        if (!pulls.has(pull)) {
            return BAD;
        }
        return wiring.forceOf(pull);
    }

    public int would(int pull, int bell) {
        if (!pulls.has(pull) || !within(bell, BELLS)) {
            return BAD;
        }
        int bit = 1 << bell;
        if ((wiring.loudBells(pull) & bit) != 0) {
            return LOUD;
        }
        return (wiring.weakBells(pull) & bit) != 0 ? WEAK : NOTHING;
    }

    public int means(int tone, int loud, int swing) {
        if (tone < -1 || tone >= TONES || loud < 0 || loud > LOUD
                || swing < -1 || swing > ALL_BELLS) {
            return BAD;
        }
        int heard = bells.ofTone(tone);
        if (swing != -1) {
            heard &= swing;
        }
        return wiring.pullsThatRing(heard, loud);
    }

    public int servant(int floor, int place, int tasks) {
        if (!within(floor, FLOORS) || !within(place, PLACES) || !within(tasks, 1 << RANKS)) {
            return BAD;
        }
        if (servants.size >= MOST_SERVANTS) {
            return FULL;
        }
        return servants.add(floor, place, tasks);
    }

    public int ring(int pull) {
        if (!pulls.has(pull)) {
            return BAD;
        }
        int loud = wiring.loudBells(pull);
        int weak = wiring.weakBells(pull);
        int rung = loud | weak;
        if (rung != 0) {
            bells.startSwinging(loud, weak);
            calls.make(pull, service.ticksNow);
        }
        return rung;
    }

    public int ticks(int n) {
        if (n < 1 || n > MOST_TICKS_AT_ONCE) {
            return BAD;
        }
        if (service.ticksNow + n > MOST_TICKS) {
            return FULL;
        }
        for (int i = 0; i < n; i++) {
            service.sendWhileAnyCan();
            bells.swingLess();
            service.nextTick();
        }
        return service.ticksNow;
    }

    public int takeBack(int pull) {
        if (!pulls.has(pull)) {
            return BAD;
        }
        if (!calls.isWaiting(pull)) {
            return NO;
        }
        int waited = service.ticksNow - calls.since[pull];
        calls.drop(pull);
        return waited;
    }

    public int flags(int set) {
        if (!within(set, 1 << pulls.size)) {
            return BAD;
        }
        int were = calls.flagBits & set;
        calls.flagBits &= ~set;
        return were;
    }

    public int about(int pull, int what) {
        if (!pulls.has(pull)) {
            return BAD;
        }
        switch (what) {
            case 0:
                return calls.state[pull];
            case 1:
                return (calls.flagBits >> pull) & 1;
            case 2:
                return calls.errands[pull];
            case 3:
                return calls.waited[pull];
            case 4:
                return calls.longest[pull];
            default:
                return BAD;
        }
    }

    public int servantTold(int servant, int what) {
        if (!within(servant, servants.size)) {
            return BAD;
        }
        switch (what) {
            case 0:
                return servants.floor[servant];
            case 1:
                return servants.place[servant];
            case 2:
                return servants.errandFor[servant];
            case 3:
                return servants.isFree(servant) ? 0 : servants.overAt[servant] - service.ticksNow;
            case 4:
                return servants.errands[servant];
            default:
                return BAD;
        }
    }

    public int way(int servant, int pull) {
        if (!within(servant, servants.size) || !pulls.has(pull)) {
            return BAD;
        }
        return servants.wayTo(servant, pulls.floor[pull], pulls.place[pull]);
    }

    public int swings(int bell) {
        if (bell == -1) {
            return bells.swinging();
        }
        if (!within(bell, BELLS)) {
            return BAD;
        }
        return bells.swing[bell];
    }

    public int share(int pull) {
        if (pull != -1 && !pulls.has(pull)) {
            return BAD;
        }
        if (calls.countIn(Calls.WAITS) > MOST_SHARED) {
            return NO;
        }
        sharing.findBest();
        return pull == -1 ? sharing.bestCost : sharing.servantFor(pull);
    }

    public int send() {
        if (calls.countIn(Calls.WAITS) > MOST_SHARED) {
            return NO;
        }
        sharing.findBest();
        int gone = 0;
        for (int i = 0; i < sharing.size; i++) {
            if (sharing.best[i] != Sharing.NOBODY) {
                service.sendOne(sharing.best[i], sharing.waiting[i]);
                gone++;
            }
        }
        return gone;
    }

    public int test(int pull, int heat, int outcome) {
        if (!pulls.has(pull) || heat < 0 || heat > MOST_HEAT || outcome < GAP || outcome > LOUD) {
            return BAD;
        }
        if (faults.tests >= MOST_TESTS) {
            return FULL;
        }
        return faults.addTest(pull, heat, outcome);
    }

    public int noTests() {
        return faults.dropTests();
    }

    public int fault(int i) {
        if (i < -1) {
            return BAD;
        }
        if (i == -1) {
            return faults.size;
        }
        return i < faults.size ? faults.explaining[i] : NONE;
    }

    public int nextTest() {
        return faults.testThatPartsMost(wiring.heatNow);
    }

    public int frame(int a, int b, int v) {
        if (!within(a, POINTS) || !within(b, POINTS) || v < 0 || v > WIRE) {
            return BAD;
        }
        if (!lattice.areSideBySide(a, b)) {
            return BAD;
        }
        return lattice.setBetween(a, b, v);
    }

    public int wires(int points) {
        if (!within(points, 1 << POINTS)) {
            return BAD;
        }
        int many = Integer.bitCount(points);
        if (many < 1 || many > MOST_ENDS) {
            return BAD;
        }
        return lattice.fewestNew(points);
    }

    public int count(int what) {
        switch (what) {
            case 0:
                return pulls.size;
            case 1:
                return servants.size;
            case 2:
                return service.ticksNow;
            case 3:
                return calls.countIn(Calls.WAITS);
            case 4:
                return calls.countIn(Calls.ON_ERRAND);
            case 5:
                return Integer.bitCount(calls.flagBits);
            case 6:
                return faults.tests;
            case 7:
                return lattice.countWires();
            case 8:
                return calls.takenBack;
            default:
                return BAD;
        }
    }

    private static boolean within(int number, int size) {
        return number >= 0 && number < size;
    }

    /** The pulls as they came; what is told of one never changes. */
    private static final class Pulls {
        int size;
        final int[] floor = new int[MOST_PULLS];
        final int[] place = new int[MOST_PULLS];
        final int[] rank = new int[MOST_PULLS];
        final int[] bellOf = new int[MOST_PULLS];
        final int[] cranksOf = new int[MOST_PULLS];

        boolean has(int pull) {
            return within(pull, size);
        }

        int add(int itsFloor, int itsPlace, int itsRank, int itsBell, int itsCranks) {
            int pull = size;
            floor[pull] = itsFloor;
            place[pull] = itsPlace;
            rank[pull] = itsRank;
            bellOf[pull] = itsBell;
            cranksOf[pull] = itsCranks;
            size++;
            return pull;
        }

        /** Force with every crank good; it may be 0, but no heat brings it below. */
        int forceInHeat(int pull, int heat) {
            return 10 - heat * Integer.bitCount(cranksOf[pull]) / 20;
        }
    }

    /** The bells: how they sound and how long they swing yet. */
    private static final class Bells {
        private static final int LOUD_SWING = 8;
        private static final int WEAK_SWING = 4;

        final int[] tone = new int[BELLS];
        final int[] swing = new int[BELLS];
        int muteBits;

        int setTone(int bell, int v) {
            int was = tone[bell];
            tone[bell] = v;
            return was;
        }

        int setMute(int bell, int v) {
            int was = (muteBits >> bell) & 1;
            muteBits = (muteBits & ~(1 << bell)) | (v << bell);
            return was;
        }

        int ofTone(int wanted) {
            if (wanted == -1) {
                return ALL_BELLS;
            }
            int bits = 0;
            for (int bell = 0; bell < BELLS; bell++) {
                if (tone[bell] == wanted) {
                    bits |= 1 << bell;
                }
            }
            return bits;
        }

        void startSwinging(int loud, int weak) {
            for (int bell = 0; bell < BELLS; bell++) {
                if (((loud >> bell) & 1) != 0) {
                    swing[bell] = LOUD_SWING;
                } else if (((weak >> bell) & 1) != 0) {
                    swing[bell] = Math.max(swing[bell], WEAK_SWING);
                }
            }
        }

        void swingLess() {
            for (int bell = 0; bell < BELLS; bell++) {
                if (swing[bell] > 0) {
                    swing[bell]--;
                }
            }
        }

        int swinging() {
            int bits = 0;
            for (int bell = 0; bell < BELLS; bell++) {
                if (swing[bell] > 0) {
                    bits |= 1 << bell;
                }
            }
            return bits;
        }
    }

    /** Cranks, heat and crossings: which bells ring by a pull. */
    private static final class Wiring {
        private final Pulls pulls;
        private final Bells bells;
        /** A dead crank stands here, too, but no force is left to be lessened by it. */
        private final int[] slack = new int[CRANKS];
        private final int[] crossedWith = new int[CRANKS];
        private int deadBits;
        int pairs;
        int heatNow;

        Wiring(Pulls pulls, Bells bells) {
            this.pulls = pulls;
            this.bells = bells;
        }

        int setCrank(int crank, int v) {
            int was = slack[crank];
            slack[crank] = v;
            int bit = 1 << crank;
            deadBits = v == DEAD ? deadBits | bit : deadBits & ~bit;
            return was;
        }

        boolean areCrossed(int a, int b) {
            return ((crossedWith[a] >> b) & 1) != 0;
        }

        int addPair(int a, int b) {
            crossedWith[a] |= 1 << b;
            crossedWith[b] |= 1 << a;
            pairs++;
            return pairs;
        }

        int dropPairs() {
            int were = pairs;
            for (int crank = 0; crank < CRANKS; crank++) {
                crossedWith[crank] = 0;
            }
            pairs = 0;
            return were;
        }

        int forceOf(int pull) {
            if (hasDead(pull)) {
                return 0;
            }
            int left = pulls.forceInHeat(pull, heatNow);
            int cranks = pulls.cranksOf[pull];
            for (int crank = 0; crank < CRANKS; crank++) {
                if (((cranks >> crank) & 1) != 0) {
                    left -= slack[crank];
                }
            }
            return Math.max(left, 0);
        }

        int loudBells(int pull) {
            return forceOf(pull) >= LOUD_FORCE ? soundingBell(pull) : 0;
        }

        int weakBells(int pull) {
            int strength = forceOf(pull);
            if (strength >= LOUD_FORCE) {
                return bellsPulledAlong(pull);
            }
            return strength > 0 ? soundingBell(pull) : 0;
        }

        /** The pulls by which one of the bells heard rings so: LOUD, WEAK, or 0 for either. */
        int pullsThatRing(int heard, int how) {
            int bits = 0;
            for (int pull = 0; pull < pulls.size; pull++) {
                int rung = 0;
                if (how != WEAK) {
                    rung |= loudBells(pull);
                }
                if (how != LOUD) {
                    rung |= weakBells(pull);
                }
                if ((rung & heard) != 0) {
                    bits |= 1 << pull;
                }
            }
            return bits;
        }

        private boolean hasDead(int pull) {
            return (pulls.cranksOf[pull] & deadBits) != 0;
        }

        private int soundingBell(int pull) {
            return (1 << pulls.bellOf[pull]) & ~bells.muteBits;
        }

        /** A mute bell of its own does not hinder a pull from pulling others along. */
        private int bellsPulledAlong(int pull) {
            int reached = cranksCrossedWith(pulls.cranksOf[pull]);
            if (reached == 0) {
                return 0;
            }
            int bits = 0;
            for (int other = 0; other < pulls.size; other++) {
                if (other != pull && (pulls.cranksOf[other] & reached) != 0 && !hasDead(other)) {
                    bits |= soundingBell(other);
                }
            }
            return bits & ~(1 << pulls.bellOf[pull]);
        }

        private int cranksCrossedWith(int cranks) {
            int bits = 0;
            for (int crank = 0; crank < CRANKS; crank++) {
                if (((cranks >> crank) & 1) != 0) {
                    bits |= crossedWith[crank];
                }
            }
            return bits;
        }
    }

    /** The servants: where each was last, and the errand it is on. */
    private static final class Servants {
        private static final int STAIRS = 15;
        private static final int WAY_OF_A_FLOOR = 6;

        int size;
        final int[] floor = new int[MOST_SERVANTS];
        final int[] place = new int[MOST_SERVANTS];
        final int[] tasks = new int[MOST_SERVANTS];
        final int[] errandFor = new int[MOST_SERVANTS];
        final int[] overAt = new int[MOST_SERVANTS];
        final int[] errands = new int[MOST_SERVANTS];

        int add(int itsFloor, int itsPlace, int itsTasks) {
            int servant = size;
            floor[servant] = itsFloor;
            place[servant] = itsPlace;
            tasks[servant] = itsTasks;
            errandFor[servant] = NONE;
            size++;
            return servant;
        }

        boolean isFree(int servant) {
            return errandFor[servant] == NONE;
        }

        boolean mayGo(int servant, int rank) {
            return isFree(servant) && ((tasks[servant] >> rank) & 1) != 0;
        }

        int wayTo(int servant, int toFloor, int toPlace) {
            int floors = Math.abs(floor[servant] - toFloor);
            if (floors == 0) {
                return Math.abs(place[servant] - toPlace);
            }
            return Math.abs(place[servant] - STAIRS) + WAY_OF_A_FLOOR * floors
                    + Math.abs(STAIRS - toPlace);
        }
    }

    /** The calls: of each pull whether it waits, its flag, and how long it waited. */
    private static final class Calls {
        static final int WAITS = 1;
        static final int ON_ERRAND = 2;
        private static final int QUIET = 0;

        final int[] state = new int[MOST_PULLS];
        final int[] since = new int[MOST_PULLS];
        final int[] errands = new int[MOST_PULLS];
        final int[] waited = new int[MOST_PULLS];
        final int[] longest = new int[MOST_PULLS];
        int flagBits;
        int takenBack;

        boolean isWaiting(int pull) {
            return state[pull] == WAITS;
        }

        int countIn(int wanted) {
            int many = 0;
            for (int pull = 0; pull < MOST_PULLS; pull++) {
                if (state[pull] == wanted) {
                    many++;
                }
            }
            return many;
        }

        void make(int pull, int tick) {
            flagBits |= 1 << pull;
            if (state[pull] == QUIET) {
                state[pull] = WAITS;
                since[pull] = tick;
            }
        }

        void drop(int pull) {
            state[pull] = QUIET;
            takenBack++;
        }

        void startErrand(int pull, int waitedNow) {
            state[pull] = ON_ERRAND;
            errands[pull]++;
            waited[pull] += waitedNow;
            longest[pull] = Math.max(longest[pull], waitedNow);
        }

        void endErrand(int pull) {
            state[pull] = QUIET;
        }
    }

    /** The round of the ticks: who goes where, and who is back. */
    private static final class Service {
        private static final int SERVE = 3;
        private static final int NOBODY = -1;

        private final Pulls pulls;
        private final Servants servants;
        private final Calls calls;
        int ticksNow;

        Service(Pulls pulls, Servants servants, Calls calls) {
            this.pulls = pulls;
            this.servants = servants;
            this.calls = calls;
        }

        /** Each turn takes one servant, so there are no more turns than servants. */
        void sendWhileAnyCan() {
            for (int turn = 0; turn < servants.size; turn++) {
                int pull = firstThatCanBeServed();
                if (pull == NOBODY) {
                    return;
                }
                sendOne(nearestServant(pull), pull);
            }
        }

        void sendOne(int servant, int pull) {
            if (!within(servant, servants.size) || !pulls.has(pull)) {
                return;
            }
            int far = servants.wayTo(servant, pulls.floor[pull], pulls.place[pull]);
            servants.errandFor[servant] = pull;
            servants.overAt[servant] = ticksNow + far + SERVE;
            servants.errands[servant]++;
            calls.startErrand(pull, ticksNow - calls.since[pull] + far);
        }

        void nextTick() {
            ticksNow++;
            for (int servant = 0; servant < servants.size; servant++) {
                if (!servants.isFree(servant) && servants.overAt[servant] <= ticksNow) {
                    endErrand(servant);
                }
            }
        }

        private void endErrand(int servant) {
            int pull = servants.errandFor[servant];
            if (!pulls.has(pull)) {
                return;
            }
            servants.errandFor[servant] = NONE;
            servants.floor[servant] = pulls.floor[pull];
            servants.place[servant] = pulls.place[pull];
            calls.endErrand(pull);
        }

        private int firstThatCanBeServed() {
            int first = NOBODY;
            for (int pull = 0; pull < pulls.size; pull++) {
                if (calls.isWaiting(pull) && (first == NOBODY || goesBefore(pull, first))
                        && nearestServant(pull) != NOBODY) {
                    first = pull;
                }
            }
            return first;
        }

        private boolean goesBefore(int pull, int other) {
            if (pulls.rank[pull] != pulls.rank[other]) {
                return pulls.rank[pull] > pulls.rank[other];
            }
            return calls.since[pull] < calls.since[other];
        }

        private int nearestServant(int pull) {
            int nearest = NOBODY;
            int least = 0;
            for (int servant = 0; servant < servants.size; servant++) {
                if (servants.mayGo(servant, pulls.rank[pull])) {
                    int far = servants.wayTo(servant, pulls.floor[pull], pulls.place[pull]);
                    if (nearest == NOBODY || far < least) {
                        nearest = servant;
                        least = far;
                    }
                }
            }
            return nearest;
        }
    }

    /** The best sharing out of the pulls that wait among the servants that are free. */
    private static final class Sharing {
        /** Above every servant, as the document orders it. */
        static final int NOBODY = MOST_SERVANTS;
        private static final int COST_OF_NOBODY = 100;
        /** Far above four pulls of the highest rank that all go to nobody. */
        private static final int DEARER_THAN_ANY = 1000000;

        private final Pulls pulls;
        private final Servants servants;
        private final Calls calls;
        final int[] waiting = new int[MOST_SHARED];
        final int[] best = new int[MOST_SHARED];
        private final int[] tried = new int[MOST_SHARED];
        int size;
        int bestCost;

        Sharing(Pulls pulls, Servants servants, Calls calls) {
            this.pulls = pulls;
            this.servants = servants;
            this.calls = calls;
        }

        void findBest() {
            size = 0;
            for (int pull = 0; pull < pulls.size; pull++) {
                if (calls.isWaiting(pull) && size < MOST_SHARED) {
                    waiting[size] = pull;
                    size++;
                }
            }
            bestCost = DEARER_THAN_ANY;
            tryFrom(this, 0, 0, 0);
        }

        int servantFor(int pull) {
            for (int i = 0; i < size; i++) {
                if (waiting[i] == pull && best[i] != NOBODY) {
                    return best[i];
                }
            }
            return NONE;
        }

        /**
         * Tries lower servants first and nobody last, so that of sharings with one cost the
         * first that is found is the one wanted; a later one must be cheaper. Static, as the
         * language's rule 8 has a method that calls itself.
         */
        private static void tryFrom(Sharing all, int i, int busy, int cost) {
            if (cost >= all.bestCost) {
                return;
            }
            if (i >= all.size || i >= MOST_SHARED) {
                all.keep(cost);
                return;
            }
            int pull = all.waiting[i];
            int weight = all.pulls.rank[pull] + 1;
            for (int servant = 0; servant < all.servants.size; servant++) {
                if (((busy >> servant) & 1) == 0 && all.mayTake(servant, pull)) {
                    all.tried[i] = servant;
                    int more = weight * all.far(servant, pull);
                    tryFrom(all, i + 1, busy | (1 << servant), cost + more);
                }
            }
            all.tried[i] = NOBODY;
            tryFrom(all, i + 1, busy, cost + weight * COST_OF_NOBODY);
        }

        private boolean mayTake(int servant, int pull) {
            return servants.mayGo(servant, pulls.rank[pull]);
        }

        private int far(int servant, int pull) {
            return servants.wayTo(servant, pulls.floor[pull], pulls.place[pull]);
        }

        private void keep(int cost) {
            bestCost = cost;
            for (int i = 0; i < size; i++) {
                best[i] = tried[i];
            }
        }
    }

    /**
     * The faults that explain all tests. A test only ever takes faults away, and no pull
     * changes, so the row of those that are left is kept instead of the tests.
     */
    private static final class Faults {
        private static final int SLACKS = 9;
        private static final int FIRST_SLACK = 16;
        private static final int FIRST_MUTE = 160;
        private static final int ALL = 168;

        private final Pulls pulls;
        final int[] explaining = new int[ALL];
        private final int[] alike = new int[LOUD + 1];
        int size;
        int tests;

        Faults(Pulls pulls) {
            this.pulls = pulls;
            takeAll();
        }

        int addTest(int pull, int heat, int outcome) {
            tests++;
            if (outcome != GAP) {
                keepThoseThatCome(pull, heat, outcome);
            }
            return tests;
        }

        int dropTests() {
            int were = tests;
            tests = 0;
            takeAll();
            return were;
        }

        int testThatPartsMost(int heat) {
            if (size < 2) {
                return NONE;
            }
            int chosen = NONE;
            int least = 0;
            for (int pull = 0; pull < pulls.size; pull++) {
                int most = mostAlike(pull, heat);
                if (chosen == NONE || most < least) {
                    chosen = pull;
                    least = most;
                }
            }
            return chosen;
        }

        private void takeAll() {
            for (int number = 0; number < ALL; number++) {
                explaining[number] = number;
            }
            size = ALL;
        }

        private void keepThoseThatCome(int pull, int heat, int outcome) {
            int kept = 0;
            for (int i = 0; i < size; i++) {
                if (outcomeWith(explaining[i], pull, heat) == outcome) {
                    explaining[kept] = explaining[i];
                    kept++;
                }
            }
            size = kept;
        }

        private int mostAlike(int pull, int heat) {
            alike[NOTHING] = 0;
            alike[WEAK] = 0;
            alike[LOUD] = 0;
            for (int i = 0; i < size; i++) {
                alike[outcomeWith(explaining[i], pull, heat)]++;
            }
            return Math.max(alike[NOTHING], Math.max(alike[WEAK], alike[LOUD]));
        }

        private int outcomeWith(int fault, int pull, int heat) {
            int left = pulls.forceInHeat(pull, heat);
            int cranks = pulls.cranksOf[pull];
            if (fault < FIRST_SLACK) {
                left = ((cranks >> fault) & 1) != 0 ? 0 : left;
            } else if (fault < FIRST_MUTE) {
                int crank = (fault - FIRST_SLACK) / SLACKS;
                int slack = (fault - FIRST_SLACK) % SLACKS + 1;
                left = ((cranks >> crank) & 1) != 0 ? left - slack : left;
            } else if (pulls.bellOf[pull] == fault - FIRST_MUTE) {
                return NOTHING;
            }
            if (left >= LOUD_FORCE) {
                return LOUD;
            }
            return left > 0 ? WEAK : NOTHING;
        }
    }

    /** The frame: what lies between its points, and the fewest new wires for a set of them. */
    private static final class Frame {
        private static final int COLUMNS = 6;
        private static final int WALL = 1;
        private static final int FAR = 1000;
        private static final int SETS = 1 << (MOST_ENDS - 1);

        /** Between a point and the next of its floor, and the one above it. */
        private final int[] toRight = new int[POINTS];
        private final int[] toAbove = new int[POINTS];
        private final int[] ends = new int[MOST_ENDS];
        /** New wires by which a point hangs together with a set of ends: row = set. */
        private final int[] costs = new int[SETS * POINTS];

        boolean areSideBySide(int a, int b) {
            int low = Math.min(a, b);
            int high = Math.max(a, b);
            return high - low == COLUMNS || isNextOnFloor(low, high);
        }

        int setBetween(int a, int b, int v) {
            int low = Math.min(a, b);
            int[] row = isNextOnFloor(low, Math.max(a, b)) ? toRight : toAbove;
            int was = row[low];
            row[low] = v;
            return was;
        }

        int countWires() {
            int many = 0;
            for (int point = 0; point < POINTS; point++) {
                if (toRight[point] == WIRE) {
                    many++;
                }
                if (toAbove[point] == WIRE) {
                    many++;
                }
            }
            return many;
        }

        /**
         * Grows trees from the smaller sets of ends to the greater: a tree for a set either
         * parts in two at a point, or goes on from a point to the next. The last end is left
         * out of the sets, for the tree of all others is asked for there.
         */
        int fewestNew(int set) {
            int last = gatherEnds(set) - 1;
            if (last < 1) {
                return 0;
            }
            int all = (1 << last) - 1;
            for (int some = 1; some <= all; some++) {
                startTrees(some, last);
                joinTrees(some);
                spread(some * POINTS);
            }
            int fewest = costs[all * POINTS + ends[last]];
            return fewest < FAR ? fewest : NONE;
        }

        private boolean isNextOnFloor(int low, int high) {
            return high - low == 1 && high % COLUMNS != 0;
        }

        private int gatherEnds(int set) {
            int many = 0;
            for (int point = 0; point < POINTS; point++) {
                if (((set >> point) & 1) != 0 && many < MOST_ENDS) {
                    ends[many] = point;
                    many++;
                }
            }
            return many;
        }

        private void startTrees(int some, int last) {
            int row = some * POINTS;
            for (int point = 0; point < POINTS; point++) {
                costs[row + point] = FAR;
            }
            for (int i = 0; i < last; i++) {
                if (some == 1 << i) {
                    costs[row + ends[i]] = 0;
                }
            }
        }

        private void joinTrees(int some) {
            for (int part = 1; part < some; part++) {
                int rest = some & ~part;
                if ((part & some) == part && part < rest) {
                    joinTwo(some * POINTS, part * POINTS, rest * POINTS);
                }
            }
        }

        private void joinTwo(int row, int part, int rest) {
            for (int point = 0; point < POINTS; point++) {
                int both = costs[part + point] + costs[rest + point];
                costs[row + point] = Math.min(costs[row + point], both);
            }
        }

        /** No way without a ring is longer than the points are many, so the turns suffice. */
        private void spread(int row) {
            boolean changed = true;
            for (int turn = 0; turn < POINTS && changed; turn++) {
                changed = false;
                for (int point = 0; point < POINTS; point++) {
                    if (point % COLUMNS != COLUMNS - 1
                            && even(row + point, row + point + 1, toRight[point])) {
                        changed = true;
                    }
                    if (point + COLUMNS < POINTS
                            && even(row + point, row + point + COLUMNS, toAbove[point])) {
                        changed = true;
                    }
                }
            }
        }

        /** Lets the dearer of two neighbours be reached from the other, if that is cheaper. */
        private boolean even(int a, int b, int between) {
            if (between == WALL) {
                return false;
            }
            int step = between == WIRE ? 0 : 1;
            if (costs[a] + step < costs[b]) {
                costs[b] = costs[a] + step;
                return true;
            }
            if (costs[b] + step < costs[a]) {
                costs[a] = costs[b] + step;
                return true;
            }
            return false;
        }
    }
}
