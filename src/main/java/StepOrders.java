/**
 * Threads of few steps on shared numbers and locks, gone through in all orders that matter.
 *
 * <p>What is packed: a step is an int ({@link Step}), a moment between two steps a long
 * ({@link Moment}), a row of threads an int ({@link Row}). So going through all orders makes
 * no objects, and the rows made in the constructors serve every call.
 */
public final class StepOrders {
    public static final int NONE = -1, BAD = -2, NO = -3, FULL = -4;

    private static final int THREADS = 3;
    private static final int STEPS = 4;
    private static final int ALL_STEPS = THREADS * STEPS;
    private static final int NUMBERS = 4;
    private static final int LOCKS = 2;
    private static final int FIGURES = 10;
    private static final int BYTES = 120;
    private static final int STATES = 5;

    private static final int WRITE = 0;
    private static final int ADD = 1;
    private static final int COPY = 2;
    private static final int CHECK = 3;
    private static final int LOCK = 4;
    private static final int FREE = 5;

    private static final int NOT_SO_MANY = -5;
    private static final int FAULTY = -10;
    private static final long DIGEST_BEGIN = 2593L;

    private final State now = new State();
    private final State tried = new State();
    private final Past past = new Past();
    private final AllOrders all = new AllOrders();
    private final Meetings meetings = new Meetings();
    private final Text text = new Text();
    private int refusedBad;
    private int refusedNo;
    private int refusedFull;

    public StepOrders() {
    }

    // ---- steps

    public int step(int t, int sort, int x, int v) {
        if (!below(t, THREADS) || !Step.isOne(sort, x, v)) {
            return refused(BAD);
        }
        if (now.stepsOf(t) >= STEPS) {
            return refused(FULL);
        }
        past.keep(now);
        now.addStep(t, Step.packed(sort, x, v));
        return now.stepsOf(t) - 1;
    }

    public int drops(int t) {
        if (!below(t, THREADS)) {
            return refused(BAD);
        }
        if (now.stepsOf(t) == 0) {
            return refused(NO);
        }
        past.keep(now);
        now.dropStep(t);
        return now.stepsOf(t);
    }

    public int number(int x, int v) {
        if (!below(x, NUMBERS) || !below(v, FIGURES)) {
            return refused(BAD);
        }
        past.keep(now);
        int before = Moment.valueOf(now.beginning(), x);
        now.setBeginning(x, v);
        return before;
    }

    public int of(int t, int i, int what) {
        if (!now.hasStep(t, i)) {
            return refused(BAD);
        }
        int step = now.stepAt(t, i);
        switch (what) {
            case 0:
                return Step.kind(step);
            case 1:
                return Step.target(step);
            case 2:
                return Step.value(step);
            case 3:
                return Step.readBits(step);
            case 4:
                return Step.writeBits(step);
            default:
                return refused(BAD);
        }
    }

    public int depend(int t, int i, int u, int j) {
        if (!now.hasStep(t, i) || !now.hasStep(u, j) || (t == u && i == j)) {
            return refused(BAD);
        }
        return t == u || Step.tied(now.stepAt(t, i), now.stepAt(u, j)) ? 1 : 0;
    }

    // ---- orders

    public int orders(int what) {
        if (!below(what, 4)) {
            return refused(BAD);
        }
        all.goThrough(now);
        return all.howMany(what);
    }

    public int order(int s, int k) {
        if (s < 0 || k < NONE) {
            return refused(BAD);
        }
        all.goThrough(now);
        if (s >= all.count()) {
            return refused(NO);
        }
        int row = all.rowAt(s);
        if (k == NONE) {
            return Row.length(row);
        }
        return k < Row.length(row) ? Row.threadAt(row, k) : NOT_SO_MANY;
    }

    public int sort(int s, int what) {
        if (s < 0 || !below(what, 3)) {
            return refused(BAD);
        }
        all.goThrough(now);
        if (s >= all.count()) {
            return refused(NO);
        }
        int row = all.rowAt(s);
        switch (what) {
            case 0:
                return Moment.ending(now.momentBehind(row));
            case 1:
                return Moment.wrongOnes(now.momentBehind(row));
            default:
                return Row.length(row) < now.stepsInAll() ? 1 : 0;
        }
    }

    public int ends(int i) {
        if (i < 0) {
            return refused(BAD);
        }
        all.goThrough(now);
        int left = i;
        for (int ending = 0; ending < AllOrders.ENDINGS; ending++) {
            if (all.endsAt(ending)) {
                if (left == 0) {
                    return ending;
                }
                left--;
            }
        }
        return NOT_SO_MANY;
    }

    public int race(int t, int i, int u, int j) {
        if (!now.hasStep(t, i) || !now.hasStep(u, j) || t == u) {
            return refused(BAD);
        }
        meetings.goThrough(now);
        return meetings.isRace(now, t, i, u, j) ? 1 : 0;
    }

    public int races() {
        meetings.goThrough(now);
        int found = 0;
        for (int t = 0; t < THREADS; t++) {
            for (int u = t + 1; u < THREADS; u++) {
                found += racesBetween(t, u);
            }
        }
        return found;
    }

    private int racesBetween(int t, int u) {
        int found = 0;
        for (int i = 0; i < now.stepsOf(t); i++) {
            for (int j = 0; j < now.stepsOf(u); j++) {
                if (meetings.isRace(now, t, i, u, j)) {
                    found++;
                }
            }
        }
        return found;
    }

    // ---- a run

    public int does(int t) {
        if (!below(t, THREADS)) {
            return refused(BAD);
        }
        if (!now.canDo(now.runMoment(), t)) {
            return refused(NO);
        }
        past.keep(now);
        now.runOn(t);
        return Moment.wrongOnes(now.runMoment());
    }

    public int again() {
        past.keep(now);
        int done = Row.length(now.runRow());
        now.beginRun();
        return done;
    }

    public int run(int what) {
        long moment = now.runMoment();
        switch (what) {
            case 0:
                return now.ableBits(moment);
            case 1:
                return Row.length(now.runRow());
            case 2:
                return Moment.wrongOnes(moment);
            case 3:
                return Moment.ending(moment);
            case 4:
                return Moment.holderOf(moment, 0);
            case 5:
                return Moment.holderOf(moment, 1);
            default:
                return refused(BAD);
        }
    }

    public int which() {
        if (now.ableBits(now.runMoment()) != 0) {
            return NONE;
        }
        all.goThrough(now);
        return all.find(now.runRow());
    }

    // ---- texts

    public int type(int c) {
        if (!below(c, 128)) {
            return refused(BAD);
        }
        if (text.length() >= BYTES) {
            return refused(FULL);
        }
        text.append(c);
        return text.length();
    }

    public int clear() {
        int had = text.length();
        text.empty();
        return had;
    }

    public int reads() {
        tried.takeFrom(now);
        int fault = text.readInto(tried);
        if (fault != NONE) {
            return FAULTY - fault;
        }
        past.keep(now);
        int came = tried.stepsInAll() - now.stepsInAll();
        now.takeFrom(tried);
        return came;
    }

    public int back() {
        if (past.size() == 0) {
            return refused(NO);
        }
        past.bringBack(now);
        return past.size();
    }

    public int told(int what) {
        switch (what) {
            case 0:
                return refusedBad;
            case 1:
                return refusedNo;
            case 2:
                return refusedFull;
            case 3:
                return text.length();
            case 4:
            case 5:
            case 6:
                return now.stepsOf(what - 4);
            case 7:
                return Moment.ending(now.beginning());
            case 8:
                return past.size();
            default:
                return refused(BAD);
        }
    }

    public long digest() {
        all.goThrough(now);
        long h = DIGEST_BEGIN;
        for (int what = 0; what <= 8; what++) {
            h = 31L * h + told(what);
        }
        h = digestSteps(h);
        for (int what = 0; what <= 3; what++) {
            h = 31L * h + all.howMany(what);
        }
        h = 31L * h + races();
        for (int what = 0; what <= 5; what++) {
            h = 31L * h + run(what);
        }
        return digestEnds(h);
    }

    private long digestSteps(long before) {
        long h = before;
        for (int t = 0; t < THREADS; t++) {
            for (int i = 0; i < now.stepsOf(t); i++) {
                for (int what = 0; what <= 4; what++) {
                    h = 31L * h + of(t, i, what);
                }
            }
        }
        return h;
    }

    private long digestEnds(long before) {
        long h = before;
        for (int ending = 0; ending < AllOrders.ENDINGS; ending++) {
            if (all.endsAt(ending)) {
                h = 31L * h + ending;
            }
        }
        return h;
    }

    private int refused(int why) {
        if (why == BAD) {
            refusedBad++;
        } else if (why == NO) {
            refusedNo++;
        } else {
            refusedFull++;
        }
        return why;
    }

    private static boolean below(int value, int bound) {
        return value >= 0 && value < bound;
    }

    /** A step as an int: its sort, its x and its v in bits of their own. */
    private static final class Step {
        private Step() {
        }

        static boolean isOne(int kind, int x, int v) {
            if (!below(kind, FREE + 1)) {
                return false;
            }
            if (isLocking(kind)) {
                return below(x, LOCKS) && v == 0;
            }
            return below(x, NUMBERS) && below(v, kind == COPY ? NUMBERS : FIGURES);
        }

        static boolean isLocking(int kind) {
            return kind == LOCK || kind == FREE;
        }

        static int packed(int kind, int x, int v) {
            return kind | (x << 3) | (v << 5);
        }

        static int kind(int step) {
            return step & 7;
        }

        static int target(int step) {
            return (step >> 3) & 3;
        }

        static int value(int step) {
            return (step >> 5) & 15;
        }

        static int readBits(int step) {
            switch (kind(step)) {
                case ADD:
                case CHECK:
                    return 1 << target(step);
                case COPY:
                    return 1 << value(step);
                default:
                    return 0;
            }
        }

        static int writeBits(int step) {
            switch (kind(step)) {
                case WRITE:
                case ADD:
                case COPY:
                    return 1 << target(step);
                default:
                    return 0;
            }
        }

        static boolean tiedByNumber(int one, int other) {
            int oneWrites = writeBits(one);
            int otherWrites = writeBits(other);
            return (oneWrites & (otherWrites | readBits(other))) != 0
                || (otherWrites & readBits(one)) != 0;
        }

        static boolean tiedByLock(int one, int other) {
            return isLocking(kind(one)) && isLocking(kind(other)) && target(one) == target(other);
        }

        /** Whether two steps of unlike threads depend on one another. */
        static boolean tied(int one, int other) {
            return tiedByNumber(one, other) || tiedByLock(one, other);
        }
    }

    /**
     * A moment between two steps as a long, four bits each: the steps done of each thread,
     * the checks that were wrong, the numbers, and of each lock 0 or one more than its holder.
     */
    private static final class Moment {
        private static final int WRONG_PLACE = THREADS;
        private static final int NUMBER_PLACE = WRONG_PLACE + 1;
        private static final int LOCK_PLACE = NUMBER_PLACE + NUMBERS;

        private Moment() {
        }

        private static int at(long moment, int place) {
            return (int) (moment >>> (4 * place)) & 15;
        }

        private static long with(long moment, int place, int value) {
            int shift = 4 * place;
            return (moment & ~(15L << shift)) | ((long) value << shift);
        }

        static int doneOf(long moment, int t) {
            return at(moment, t);
        }

        static long withDone(long moment, int t, int done) {
            return with(moment, t, done);
        }

        static int wrongOnes(long moment) {
            return at(moment, WRONG_PLACE);
        }

        static long withOneWrongMore(long moment) {
            return with(moment, WRONG_PLACE, wrongOnes(moment) + 1);
        }

        static int valueOf(long moment, int x) {
            return at(moment, NUMBER_PLACE + x);
        }

        static long withValue(long moment, int x, int value) {
            return with(moment, NUMBER_PLACE + x, value);
        }

        static int holderOf(long moment, int lock) {
            return at(moment, LOCK_PLACE + lock) - 1;
        }

        static long withHolder(long moment, int lock, int holder) {
            return with(moment, LOCK_PLACE + lock, holder + 1);
        }

        static int ending(long moment) {
            int ending = 0;
            for (int x = 0; x < NUMBERS; x++) {
                ending = ending * FIGURES + valueOf(moment, x);
            }
            return ending;
        }
    }

    /**
     * A row of threads as an int: its length in the lowest four bits, above them two bits a
     * thread, the first highest. So of two orders the one that comes first is the lesser int,
     * as no order begins with the whole of another one.
     */
    private static final class Row {
        private Row() {
        }

        static int length(int row) {
            return row & 15;
        }

        static int threadAt(int row, int k) {
            return (row >>> (4 + 2 * (ALL_STEPS - 1 - k))) & 3;
        }

        static int withThreadAt(int row, int k, int t) {
            if (length(row) >= ALL_STEPS || k < 0 || k > length(row)) {
                return row;
            }
            int shift = 2 * (ALL_STEPS - k);
            int threads = row >>> 4;
            int ahead = (threads >>> shift) << shift;
            int behind = threads & ((1 << shift) - 1);
            int longer = ahead | (t << (shift - 2)) | (behind >>> 2);
            return (longer << 4) | (length(row) + 1);
        }
    }

    /** What a STATE is: the steps, the numbers as they begin, and the run. */
    private static final class State {
        private final int[] steps = new int[ALL_STEPS];
        private final int[] counts = new int[THREADS];
        private long beginning;
        private long runMoment;
        /** Kept as the first row of its sort, so that find() needs no other one. */
        private int runRow;

        void takeFrom(State other) {
            System.arraycopy(other.steps, 0, steps, 0, ALL_STEPS);
            System.arraycopy(other.counts, 0, counts, 0, THREADS);
            beginning = other.beginning;
            runMoment = other.runMoment;
            runRow = other.runRow;
        }

        boolean hasSameThreads(State other) {
            if (beginning != other.beginning) {
                return false;
            }
            for (int t = 0; t < THREADS; t++) {
                if (counts[t] != other.counts[t]) {
                    return false;
                }
                for (int i = 0; i < counts[t]; i++) {
                    if (stepAt(t, i) != other.stepAt(t, i)) {
                        return false;
                    }
                }
            }
            return true;
        }

        int stepsOf(int t) {
            return below(t, THREADS) ? counts[t] : 0;
        }

        int stepsInAll() {
            int sum = 0;
            for (int t = 0; t < THREADS; t++) {
                sum += counts[t];
            }
            return sum;
        }

        boolean hasStep(int t, int i) {
            return i >= 0 && i < stepsOf(t);
        }

        /** The step, or NONE if there is none. */
        int stepAt(int t, int i) {
            boolean there = t >= 0 && t < THREADS && i >= 0 && i < counts[t];
            return there ? steps[t * STEPS + i] : NONE;
        }

        void addStep(int t, int step) {
            if (below(t, THREADS) && counts[t] < STEPS) {
                steps[t * STEPS + counts[t]] = step;
                counts[t]++;
                beginRun();
            }
        }

        void dropStep(int t) {
            if (below(t, THREADS) && counts[t] > 0) {
                counts[t]--;
                beginRun();
            }
        }

        long beginning() {
            return beginning;
        }

        void setBeginning(int x, int value) {
            beginning = Moment.withValue(beginning, x, value);
            beginRun();
        }

        long runMoment() {
            return runMoment;
        }

        int runRow() {
            return runRow;
        }

        void beginRun() {
            runMoment = beginning;
            runRow = 0;
        }

        void runOn(int t) {
            runRow = Row.withThreadAt(runRow, firstPlace(t), t);
            runMoment = stepDone(runMoment, t);
        }

        /**
         * Where the next step of a thread goes in the run's row, so that the row stays the
         * first of its sort: it may go ahead of all that it is not tied to, and does so where
         * a greater thread stands.
         */
        private int firstPlace(int t) {
            int step = nextStep(runMoment, t);
            long moment = runMoment;
            int place = Row.length(runRow);
            for (int k = Row.length(runRow) - 1; k >= 0; k--) {
                int u = Row.threadAt(runRow, k);
                moment = Moment.withDone(moment, u, Moment.doneOf(moment, u) - 1);
                if (u == t || Step.tied(step, nextStep(moment, u))) {
                    return place;
                }
                if (u > t) {
                    place = k;
                }
            }
            return place;
        }

        /** The next step of a thread, or NONE. */
        int nextStep(long moment, int t) {
            return stepAt(t, Moment.doneOf(moment, t));
        }

        boolean canDo(long moment, int t) {
            int step = nextStep(moment, t);
            if (step == NONE) {
                return false;
            }
            switch (Step.kind(step)) {
                case LOCK:
                    return Moment.holderOf(moment, Step.target(step)) == NONE;
                case FREE:
                    return Moment.holderOf(moment, Step.target(step)) == t;
                default:
                    return true;
            }
        }

        int ableBits(long moment) {
            int bits = 0;
            for (int t = 0; t < THREADS; t++) {
                if (canDo(moment, t)) {
                    bits |= 1 << t;
                }
            }
            return bits;
        }

        /** The moment behind the next step of a thread, which can be done. */
        long stepDone(long moment, int t) {
            int step = nextStep(moment, t);
            if (step == NONE) {
                return moment;
            }
            long behind = Moment.withDone(moment, t, Moment.doneOf(moment, t) + 1);
            int x = Step.target(step);
            int v = Step.value(step);
            int value = Moment.valueOf(moment, x);
            switch (Step.kind(step)) {
                case WRITE:
                    return Moment.withValue(behind, x, v);
                case ADD:
                    return Moment.withValue(behind, x, (value + v) % FIGURES);
                case COPY:
                    return Moment.withValue(behind, x, Moment.valueOf(moment, v));
                case CHECK:
                    return value == v ? behind : Moment.withOneWrongMore(behind);
                case LOCK:
                    return Moment.withHolder(behind, x, t);
                default:
                    return Moment.withHolder(behind, x, NONE);
            }
        }

        long momentBehind(int row) {
            long moment = beginning;
            for (int k = 0; k < Row.length(row); k++) {
                moment = stepDone(moment, Row.threadAt(row, k));
            }
            return moment;
        }
    }

    /** The last STATES, the oldest of which gives way. */
    private static final class Past {
        private final State[] kept = new State[STATES];
        private int oldest;
        private int size;

        Past() {
            for (int k = 0; k < STATES; k++) {
                kept[k] = new State();
            }
        }

        int size() {
            return size;
        }

        void keep(State state) {
            kept[(oldest + size) % STATES].takeFrom(state);
            if (size < STATES) {
                size++;
            } else {
                oldest = (oldest + 1) % STATES;
            }
        }

        void bringBack(State state) {
            if (size > 0) {
                size--;
                state.takeFrom(kept[(oldest + size) % STATES]);
            }
        }
    }

    /** All sorts of orders of a state's threads, each told by its first order. */
    private static final class AllOrders {
        static final int ENDINGS = 10000;
        /** 12! / (4! 4! 4!): all rows of three threads with four steps each. */
        private static final int MOST = 34650;

        private final State threads = new State();
        private final int[] rows = new int[MOST];
        private final boolean[] ended = new boolean[ENDINGS];
        private boolean known;
        private int stepsInAll;
        private int count;
        private int standstills;
        private int wrongOnes;
        private int unlikeEnds;

        int count() {
            return count;
        }

        int howMany(int what) {
            switch (what) {
                case 0:
                    return count;
                case 1:
                    return standstills;
                case 2:
                    return wrongOnes;
                default:
                    return unlikeEnds;
            }
        }

        int rowAt(int s) {
            return s >= 0 && s < count ? rows[s] : 0;
        }

        boolean endsAt(int ending) {
            return below(ending, ENDINGS) && ended[ending];
        }

        /** Goes through them anew only if other threads or numbers stood here. */
        void goThrough(State state) {
            if (known && threads.hasSameThreads(state)) {
                return;
            }
            threads.takeFrom(state);
            known = true;
            stepsInAll = threads.stepsInAll();
            count = 0;
            standstills = 0;
            wrongOnes = 0;
            unlikeEnds = 0;
            for (int ending = 0; ending < ENDINGS; ending++) {
                ended[ending] = false;
            }
            goOn(this, threads.beginning(), 0, 0);
        }

        /**
         * Keeps all first orders that begin with a row. A thread sleeps, if its next step could
         * as well have been done before a greater thread's step that stands in the row: an order
         * that goes on with it is of a sort that was met before. A sleeping one wakes when a step
         * that is tied to its own is done.
         */
        private static void goOn(AllOrders all, long moment, int row, int asleep) {
            int able = all.threads.ableBits(moment);
            if (able == 0 || Row.length(row) >= ALL_STEPS) {
                all.keep(moment, row);
                return;
            }
            int sleeping = asleep;
            for (int t = 0; t < THREADS; t++) {
                if ((able & ~sleeping & (1 << t)) != 0) {
                    int longer = Row.withThreadAt(row, Row.length(row), t);
                    int stillAsleep = all.notWoken(moment, t, sleeping);
                    goOn(all, all.threads.stepDone(moment, t), longer, stillAsleep);
                    sleeping |= 1 << t;
                }
            }
        }

        private int notWoken(long moment, int t, int sleeping) {
            int step = threads.nextStep(moment, t);
            int bits = 0;
            for (int u = 0; u < THREADS; u++) {
                if ((sleeping & (1 << u)) != 0 && !Step.tied(step, threads.nextStep(moment, u))) {
                    bits |= 1 << u;
                }
            }
            return bits;
        }

        private void keep(long moment, int row) {
            if (count >= MOST) {
                return;
            }
            rows[count] = row;
            count++;
            if (Row.length(row) < stepsInAll) {
                standstills++;
            }
            if (Moment.wrongOnes(moment) > 0) {
                wrongOnes++;
            }
            int ending = Moment.ending(moment);
            if (below(ending, ENDINGS) && !ended[ending]) {
                ended[ending] = true;
                unlikeEnds++;
            }
        }

        /** The number of the sort with this first order, or NONE; the rows rise. */
        int find(int row) {
            int low = 0;
            int high = count;
            for (int halvings = 0; halvings < 32 && low < high; halvings++) {
                int middle = (low + high) / 2;
                if (rows[middle] < row) {
                    low = middle + 1;
                } else {
                    high = middle;
                }
            }
            return low < count && rows[low] == row ? low : NONE;
        }
    }

    /** Which steps can both be next: who holds a lock hangs on the places in the threads alone. */
    private static final class Meetings {
        private static final int PLACES = STEPS + 1;
        private static final int ALL_PLACES = PLACES * PLACES * PLACES;

        private final boolean[] reached = new boolean[ALL_PLACES];

        void goThrough(State state) {
            for (int place = 0; place < ALL_PLACES; place++) {
                reached[place] = false;
            }
            reach(this, state, state.beginning(), 0);
        }

        private static void reach(Meetings meetings, State state, long moment, int depth) {
            int place = placeOf(moment);
            if (depth > ALL_STEPS || !below(place, ALL_PLACES) || meetings.reached[place]) {
                return;
            }
            meetings.reached[place] = true;
            for (int t = 0; t < THREADS; t++) {
                if (state.canDo(moment, t)) {
                    reach(meetings, state, state.stepDone(moment, t), depth + 1);
                }
            }
        }

        private static int placeOf(long moment) {
            int place = 0;
            for (int t = 0; t < THREADS; t++) {
                place = place * PLACES + Moment.doneOf(moment, t);
            }
            return place;
        }

        boolean isRace(State state, int t, int i, int u, int j) {
            if (!Step.tiedByNumber(state.stepAt(t, i), state.stepAt(u, j))) {
                return false;
            }
            int third = THREADS - t - u;
            long moment = Moment.withDone(Moment.withDone(0L, t, i), u, j);
            for (int done = 0; done <= STEPS; done++) {
                int place = placeOf(Moment.withDone(moment, third, done));
                if (below(place, ALL_PLACES) && reached[place]) {
                    return true;
                }
            }
            return false;
        }
    }

    /** THE TEXT, and what of a step has been read of it. */
    private static final class Text {
        private static final int BLANK = 32;
        private static final int AT_THREAD = 0;
        private static final int AT_KIND = 1;
        private static final int AT_TARGET = 2;
        private static final int AT_VALUE = 3;
        private static final int AT_END = 4;

        private final byte[] bytes = new byte[BYTES];
        private int length;
        private int place;
        private int thread;
        private int kind;
        private int target;
        private int value;

        int length() {
            return length;
        }

        void append(int c) {
            if (length < BYTES) {
                bytes[length] = (byte) c;
                length++;
            }
        }

        void empty() {
            length = 0;
        }

        /** Adds the steps to a state, as far as they can be read: the FAULT, or NONE. */
        int readInto(State state) {
            int before = state.stepsInAll();
            place = AT_THREAD;
            for (int k = 0; k < length; k++) {
                if (bytes[k] != BLANK && !takes(bytes[k], state)) {
                    return k;
                }
            }
            return place == AT_THREAD && state.stepsInAll() > before ? NONE : length;
        }

        /** Whether a byte can stand at the place; if so, the place moves on. */
        private boolean takes(int c, State state) {
            switch (place) {
                case AT_THREAD:
                    return takesThread(c - '0', state);
                case AT_KIND:
                    return takesKind(c);
                case AT_TARGET:
                    return takesTarget(c);
                case AT_VALUE:
                    return takesValue(c);
                default:
                    return takesEnd(c, state);
            }
        }

        private boolean takesThread(int t, State state) {
            if (!below(t, THREADS) || state.stepsOf(t) >= STEPS) {
                return false;
            }
            thread = t;
            place = AT_KIND;
            return true;
        }

        private boolean takesKind(int c) {
            kind = kindOf(c);
            place = AT_TARGET;
            return kind != NONE;
        }

        private static int kindOf(int c) {
            switch (c) {
                case 'w':
                    return WRITE;
                case 'a':
                    return ADD;
                case 'c':
                    return COPY;
                case 'k':
                    return CHECK;
                case 'l':
                    return LOCK;
                case 'f':
                    return FREE;
                default:
                    return NONE;
            }
        }

        private boolean takesTarget(int c) {
            boolean locking = Step.isLocking(kind);
            target = c - (locking ? '0' : 'a');
            value = 0;
            place = locking ? AT_END : AT_VALUE;
            return below(target, locking ? LOCKS : NUMBERS);
        }

        private boolean takesValue(int c) {
            value = c - (kind == COPY ? 'a' : '0');
            place = AT_END;
            return below(value, kind == COPY ? NUMBERS : FIGURES);
        }

        private boolean takesEnd(int c, State state) {
            if (c != ';') {
                return false;
            }
            state.addStep(thread, Step.packed(kind, target, value));
            place = AT_THREAD;
            return true;
        }
    }
}
