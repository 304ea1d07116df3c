/**
 * The forwarding table of a router whose hardware table is too small: routes are compressed to the
 * fewest entries, the entries that answer the most traffic are chosen for the hardware, and the
 * hardware is brought to this target in limited steps without ever giving a wrong answer.
 *
 * <p>Everything that a call needs is made once, in the constructors; no call makes an object.
 */
public final class ForwardingTable {
    /** Result of a call with an invalid argument. */
    public static final int INVALID = -1;
    /** Result of a call that finds nothing. */
    public static final int NOT_FOUND = -2;
    /** A route is refused because there are 60. */
    public static final int FULL = -3;
    /** The action of an exception. */
    public static final int EXCEPTION = 16;

    private static final int MOST_ROUTES = 60;
    private static final int MOST_HOP = 15;
    private static final int MOST_LENGTH = 32;
    private static final int MOST_CAPACITY = 40;
    private static final int MOST_ROOM = 2 * MOST_CAPACITY;
    private static final int MOST_LOGGED = 40;
    private static final int MOST_COUNT = 999999;
    private static final int MOST_PACKETS = 9999;
    private static final int MOST_LIMIT = 200;
    private static final int MOST_TAPE = 2200;
    private static final int MOST_UNDOS = 8;
    private static final int FIRST_CAPACITY = 8;

    private static final long ALL_ADDRESSES = 1L << 32;
    private static final long LOW_32_BITS = ALL_ADDRESSES - 1;
    private static final int LENGTH_BITS = 6;
    private static final long LENGTH_MASK = (1L << LENGTH_BITS) - 1;
    private static final int NONE = -1;

    // What count() tells, by its argument.
    private static final int BY_HARDWARE = 0;
    private static final int BY_SOFTWARE = 1;
    private static final int CHURN = 2;
    private static final int ROUTE_CHANGES = 3;
    private static final int CLEARINGS = 4;
    private static final int COUNTS = 5;

    // The kinds of a change, as change() tells them.
    private static final int PUT_IN = 0;
    private static final int ACTION_CHANGED = 1;
    private static final int REMOVED = 2;

    // The kinds of a report.
    private static final int ROUTES_REPORT = 0;
    private static final int ENTRIES_REPORT = 1;
    private static final int TARGET_REPORT = 2;
    private static final int HARDWARE_REPORT = 3;
    private static final int LOG_REPORT = 4;

    // How far what follows from the state has been worked out; each level builds on those below.
    private static final int NOTHING = 0;
    private static final int ROUTE_COVER = 1;
    private static final int COMPRESSED = 2;
    private static final int CHOSEN = 3;
    private static final int PLANNED = 4;

    private final State state = new State();
    private final State draft = new State();
    private final History history = new History();
    private final Tape tape = new Tape();
    private int faultPosition = NOT_FOUND;

    private int settled = NOTHING;
    private final Cover routeCover = new Cover(MOST_ROUTES);
    private final Compressor compressor = new Compressor();
    private final PrefixSet entries = new PrefixSet(MOST_ROUTES);
    private final Cover entryCover = new Cover(MOST_ROUTES);
    private final Choice choice = new Choice();
    private final SyncPlan plan = new SyncPlan();
    private final Report report = new Report();

    // Rooms for one call's work.
    private final PrefixSet otherRoutes = new PrefixSet(MOST_ROUTES);
    private final PrefixSet trialHardware = new PrefixSet(MOST_ROOM);
    private final Cover hardwareCover = new Cover(MOST_ROOM);

    /** Creates a table without routes, with the capacity 8 and all else empty. */
    public ForwardingTable() {
    }

    // ---- the tape and the text ----

    /** Appends twenty bytes to the tape and returns its new length. */
    public int append(int a, int b, int c, int d, int e) {
        if (tape.size + 20 > MOST_TAPE) {
            return INVALID;
        }
        tape.addFour(a);
        tape.addFour(b);
        tape.addFour(c);
        tape.addFour(d);
        tape.addFour(e);
        return tape.size;
    }

    /** Removes the last n bytes of the tape and returns its new length. */
    public int truncate(int n) {
        if (n < 0 || n > tape.size) {
            return INVALID;
        }
        tape.size -= n;
        return tape.size;
    }

    /** Parses the tape and, if it is right, begins a new table with what it tells. */
    public int load() {
        draft.reset();
        boolean right = tape.readInto(draft);
        faultPosition = right ? NOT_FOUND : tape.start;
        tape.size = 0;
        if (!right) {
            return INVALID;
        }
        state.copyFrom(draft);
        history.forget();
        unsettle(NOTHING);
        return state.routes.size;
    }

    /** Returns the error position of the latest load. */
    public int errorPosition() {
        return faultPosition;
    }

    /** Returns the length of the tape. */
    public int tapeLength() {
        return tape.size;
    }

    // ---- the capacity and the routes ----

    /** Returns the capacity. */
    public int capacity() {
        return state.capacity;
    }

    /** Sets the capacity; the hardware is cleared if it is too large then. */
    public boolean setCapacity(int n) {
        if (n < 1 || n > MOST_CAPACITY || n == state.capacity) {
            return false;
        }
        history.save(state);
        state.capacity = n;
        if (state.hardware.size > state.room()) {
            state.emptyHardware();
        }
        unsettle(COMPRESSED);
        return true;
    }

    /** Returns the number of routes. */
    public int routes() {
        return state.routes.size;
    }

    /** Returns a number of a route. */
    public long route(int i, int what) {
        if (i < 0 || what < 0 || what > 4) {
            return INVALID;
        }
        if (i >= state.routes.size) {
            return NOT_FOUND;
        }
        if (what < 3) {
            return state.routes.tell(i, what);
        }
        settle(ROUTE_COVER);
        return what == 3 ? numberOrNotFound(routeCover.parent[i]) : routeCover.own[i];
    }

    /** Adds a route or changes its hop, and returns by how much the churn has increased. */
    public int addRoute(int value, int length, int hop) {
        if (!isPrefix(value, length) || hop < 0 || hop > MOST_HOP) {
            return INVALID;
        }
        long key = keyOf(value & LOW_32_BITS, length);
        int at = state.routes.indexOf(key);
        if (at >= 0 && state.routes.hops[at] == hop) {
            return NOT_FOUND;
        }
        if (at < 0 && state.routes.size >= MOST_ROUTES) {
            return FULL;
        }
        history.save(state);
        state.routes.put(key, hop);
        unsettle(NOTHING);
        return state.routeChanged(key);
    }

    /** Removes a route, and returns by how much the churn has increased. */
    public int removeRoute(int value, int length) {
        if (!isPrefix(value, length)) {
            return INVALID;
        }
        long key = keyOf(value & LOW_32_BITS, length);
        int at = state.routes.indexOf(key);
        if (at < 0) {
            return NOT_FOUND;
        }
        history.save(state);
        state.routes.removeAt(at);
        unsettle(NOTHING);
        return state.routeChanged(key);
    }

    /** Returns the answer for an address. */
    public int answer(int address) {
        return answerFor(address & LOW_32_BITS);
    }

    /** Returns the number of the matching route of an address. */
    public int matching(int address) {
        return numberOrNotFound(state.routes.longest(address & LOW_32_BITS));
    }

    // ---- the traffic ----

    /** Counts packets for an address; returns 1 if the hardware answers, 0 if the software does. */
    public int packet(int address, int n) {
        if (n < 1 || n > MOST_PACKETS) {
            return INVALID;
        }
        history.save(state);
        long target = address & LOW_32_BITS;
        boolean inHardware = state.hardware.answersByHop(target);
        state.log.see(target, n);
        state.counts[inHardware ? BY_HARDWARE : BY_SOFTWARE] += n;
        unsettle(COMPRESSED);
        return inHardware ? 1 : 0;
    }

    /** Halves all counts of the log and returns the number of addresses that were dropped. */
    public int age() {
        if (state.log.size == 0) {
            return NOT_FOUND;
        }
        history.save(state);
        int dropped = state.log.halve();
        unsettle(COMPRESSED);
        return dropped;
    }

    /** Returns the number of addresses in the log. */
    public int logged() {
        return state.log.size;
    }

    /** Returns an address of the log or its count. */
    public long log(int i, int what) {
        if (i < 0 || what < 0 || what > 1) {
            return INVALID;
        }
        if (i >= state.log.size) {
            return NOT_FOUND;
        }
        return what == 0 ? state.log.seen[i] : state.log.times[i];
    }

    // ---- the compressed table ----

    /** Returns the number of entries of the compressed table. */
    public int compressed() {
        settle(COMPRESSED);
        return entries.size;
    }

    /** Returns a number of an entry of the compressed table. */
    public long entry(int i, int what) {
        if (i < 0 || what < 0 || what > 5) {
            return INVALID;
        }
        settle(what < 4 ? COMPRESSED : CHOSEN);
        if (i >= entries.size) {
            return NOT_FOUND;
        }
        if (what < 3) {
            return entries.tell(i, what);
        }
        if (what == 3) {
            return numberOrNotFound(entryCover.parent[i]);
        }
        if (what == 4) {
            return choice.entryHits[i];
        }
        return choice.isKept(i) ? 1 : 0;
    }

    /** Returns the sum of the counts of the addresses in the log whose answer is this hop. */
    public int hopHits(int hop) {
        if (hop < 0 || hop > MOST_HOP) {
            return INVALID;
        }
        int sum = 0;
        for (int i = 0; i < state.log.size; i++) {
            if (answerFor(state.log.seen[i]) == hop) {
                sum += state.log.times[i];
            }
        }
        return sum;
    }

    /** Returns the entry with the most hits. */
    public int busiest() {
        settle(CHOSEN);
        int best = NOT_FOUND;
        int most = 0;
        for (int i = 0; i < entries.size; i++) {
            if (choice.entryHits[i] > most) {
                most = choice.entryHits[i];
                best = i;
            }
        }
        return best;
    }

    // ---- the target ----

    /** Returns the kept entry with the fewest hits. */
    public int coldest() {
        settle(CHOSEN);
        int best = NOT_FOUND;
        int fewest = 0;
        for (int i = 0; i < entries.size; i++) {
            if (choice.isKept(i) && (best < 0 || choice.entryHits[i] < fewest)) {
                fewest = choice.entryHits[i];
                best = i;
            }
        }
        return best;
    }

    /** Returns the number of exceptions in the target. */
    public int exceptions() {
        settle(CHOSEN);
        int sum = 0;
        for (int i = 0; i < choice.target.size; i++) {
            if (choice.target.hops[i] == EXCEPTION) {
                sum++;
            }
        }
        return sum;
    }

    /** Returns the number of places of the target. */
    public int targetSize() {
        settle(CHOSEN);
        return choice.target.size;
    }

    /** Returns a number of a place of the target. */
    public long target(int i, int what) {
        if (i < 0 || what < 0 || what > 2) {
            return INVALID;
        }
        settle(CHOSEN);
        return i < choice.target.size ? choice.target.tell(i, what) : NOT_FOUND;
    }

    /** Returns the lost hits of the best choice. */
    public int lostHits() {
        settle(CHOSEN);
        return choice.lostWith(state.capacity);
    }

    /** Returns the lost hits of the best choice with another capacity. */
    public int lostHitsWith(int capacity) {
        if (capacity < 0 || capacity > MOST_ROUTES) {
            return INVALID;
        }
        settle(CHOSEN);
        return choice.lostWith(capacity);
    }

    /** Returns the smallest capacity with which no hits are lost. */
    public int enough() {
        settle(CHOSEN);
        return choice.placesWith(MOST_ROUTES);
    }

    // ---- the hardware ----

    /** Returns the number of prefixes in the hardware. */
    public int hardwareSize() {
        return state.hardware.size;
    }

    /** Returns a number of a prefix of the hardware. */
    public long hardware(int i, int what) {
        if (i < 0 || what < 0 || what > 2) {
            return INVALID;
        }
        return i < state.hardware.size ? state.hardware.tell(i, what) : NOT_FOUND;
    }

    /** Returns the action of the hardware for an address. */
    public int action(int address) {
        int at = state.hardware.longest(address & LOW_32_BITS);
        return at < 0 ? NOT_FOUND : state.hardware.hops[at];
    }

    /** Returns the number of changes that sync() would make without a limit. */
    public int changes() {
        settle(PLANNED);
        return plan.size;
    }

    /** Returns a number of a change that sync() would make without a limit. */
    public long change(int i, int what) {
        if (i < 0 || what < 0 || what > 3) {
            return INVALID;
        }
        settle(PLANNED);
        if (i >= plan.size) {
            return NOT_FOUND;
        }
        switch (what) {
            case 0:
                return startOf(plan.keys[i]);
            case 1:
                return lengthOf(plan.keys[i]);
            case 2:
                return plan.kinds[i];
            default:
                return plan.actions[i];
        }
    }

    /** Returns the sum of the counts of the addresses for which the software answers now. */
    public int missed() {
        return state.log.missedBy(state.hardware);
    }

    /** Returns what missed() would be after sync() with that limit. */
    public int missedAfter(int limit) {
        if (limit < 0 || limit > MOST_LIMIT) {
            return INVALID;
        }
        trialHardware.copyFrom(state.hardware);
        if (limit > 0) {
            settle(PLANNED);
            if (plan.clears) {
                trialHardware.size = 0;
            }
            plan.makeChanges(trialHardware, limit);
        }
        return state.log.missedBy(trialHardware);
    }

    /** Synchronises the hardware with the target and returns the number of changes. */
    public int sync(int limit) {
        if (limit < 1 || limit > MOST_LIMIT) {
            return INVALID;
        }
        settle(PLANNED);
        if (plan.size == 0) {
            return NOT_FOUND;
        }
        history.save(state);
        if (plan.clears) {
            state.emptyHardware();
        }
        int made = plan.makeChanges(state.hardware, limit);
        state.counts[CHURN] += made;
        unsettle(CHOSEN);
        return made;
    }

    /** Clears the hardware and returns the number of prefixes that were removed. */
    public int clear() {
        int removed = state.hardware.size;
        if (removed == 0) {
            return NOT_FOUND;
        }
        history.save(state);
        state.emptyHardware();
        unsettle(CHOSEN);
        return removed;
    }

    // ---- counting addresses and routes ----

    /** Returns the number of addresses whose answer is this hop. */
    public long addresses(int hop) {
        if (hop < 0 || hop > MOST_HOP) {
            return INVALID;
        }
        settle(ROUTE_COVER);
        long sum = 0;
        for (int i = 0; i < routeCover.runs; i++) {
            if (routeCover.runHop[i] == hop) {
                sum += routeCover.runEnd(i) - routeCover.runStart[i];
            }
        }
        return sum;
    }

    /** Returns the number of addresses for which the hardware answers. */
    public long hardwareAddresses() {
        hardwareCover.sweep(state.hardware);
        long sum = 0;
        for (int i = 0; i < state.hardware.size; i++) {
            if (state.hardware.hops[i] != EXCEPTION) {
                sum += hardwareCover.own[i];
            }
        }
        return sum;
    }

    /** Returns the first address above an address whose answer is another one. */
    public long nextOther(int address) {
        settle(ROUTE_COVER);
        long from = address & LOW_32_BITS;
        for (int i = 0; i < routeCover.runs; i++) {
            if (routeCover.runStart[i] > from) {
                return routeCover.runStart[i];
            }
        }
        return NOT_FOUND;
    }

    /** Returns the number of runs of addresses with the same answer. */
    public int runs() {
        settle(ROUTE_COVER);
        return routeCover.runs;
    }

    /** Tells whether no answer would change without a route. */
    public boolean isRedundant(int i) {
        if (i < 0 || i >= state.routes.size) {
            return false;
        }
        settle(ROUTE_COVER);
        return changesNoAnswer(i);
    }

    /** Returns the number of redundant routes. */
    public int redundant() {
        settle(ROUTE_COVER);
        int sum = 0;
        for (int i = 0; i < state.routes.size; i++) {
            if (changesNoAnswer(i)) {
                sum++;
            }
        }
        return sum;
    }

    /** Returns the greatest number of routes each of which lies properly inside the next one. */
    public int nesting() {
        settle(ROUTE_COVER);
        return routeCover.deepest;
    }

    /** Returns the number of entries that the compressed table would have without a route. */
    public int compressedWithout(int i) {
        if (i < 0) {
            return INVALID;
        }
        return i < state.routes.size ? entriesWithout(i) : NOT_FOUND;
    }

    /** Returns the route without which the compressed table would have the fewest entries. */
    public int costliest() {
        int best = NOT_FOUND;
        int fewest = 0;
        for (int i = 0; i < state.routes.size; i++) {
            int left = entriesWithout(i);
            if (best < 0 || left < fewest) {
                fewest = left;
                best = i;
            }
        }
        return best;
    }

    // ---- counts, undoing, reports ----

    /** Returns a count since the table began. */
    public long count(int what) {
        return what < 0 || what >= COUNTS ? INVALID : state.counts[what];
    }

    /** Undoes the latest operation and returns the number of those that can still be undone. */
    public int undo() {
        if (!history.restore(state)) {
            return INVALID;
        }
        unsettle(NOTHING);
        return history.size;
    }

    /** Returns the length of a report. */
    public int reportLength(int kind) {
        if (kind < ROUTES_REPORT || kind > LOG_REPORT) {
            return INVALID;
        }
        writeReport(kind);
        return report.size;
    }

    /** Returns a byte of a report. */
    public int reportByte(int kind, int i) {
        if (kind < ROUTES_REPORT || kind > LOG_REPORT || i < 0) {
            return INVALID;
        }
        writeReport(kind);
        return i < report.size ? report.bytes[i] : NOT_FOUND;
    }

    // ---- what follows from the state ----

    /** Works out what follows from the state, up to this level, where it is not known yet. */
    private void settle(int level) {
        if (settled < ROUTE_COVER && level >= ROUTE_COVER) {
            routeCover.sweep(state.routes);
            settled = ROUTE_COVER;
        }
        if (settled < COMPRESSED && level >= COMPRESSED) {
            compressor.compress(state.routes);
            compressor.collect(entries);
            entryCover.sweep(entries);
            settled = COMPRESSED;
        }
        if (settled < CHOSEN && level >= CHOSEN) {
            choice.countHits(entries, state.log);
            choice.weigh(entryCover, entries.size);
            choice.choose(entries, entryCover, state.capacity);
            settled = CHOSEN;
        }
        if (settled < PLANNED && level >= PLANNED) {
            plan.make(state.hardware, choice.target, state.room());
            settled = PLANNED;
        }
    }

    /** After a change of the state: what lies above this level is no longer known. */
    private void unsettle(int level) {
        settled = Math.min(settled, level);
        report.kind = NONE;
    }

    private void writeReport(int kind) {
        if (report.kind == kind) {
            return;
        }
        report.size = 0;
        report.kind = kind;
        switch (kind) {
            case ROUTES_REPORT:
                report.addPrefixes(state.routes);
                break;
            case ENTRIES_REPORT:
                settle(COMPRESSED);
                report.addPrefixes(entries);
                break;
            case TARGET_REPORT:
                settle(CHOSEN);
                report.addPrefixes(choice.target);
                break;
            case HARDWARE_REPORT:
                report.addPrefixes(state.hardware);
                break;
            default:
                report.addTraffic(state.log);
                break;
        }
    }

    private int answerFor(long address) {
        int at = state.routes.longest(address);
        return at < 0 ? 0 : state.routes.hops[at];
    }

    /** Without a route, the addresses that it matches get the answer of the longest one around it. */
    private boolean changesNoAnswer(int i) {
        int outer = routeCover.parent[i];
        int answerWithout = outer < 0 ? 0 : state.routes.hops[outer];
        return routeCover.own[i] == 0 || state.routes.hops[i] == answerWithout;
    }

    private int entriesWithout(int i) {
        otherRoutes.copyFrom(state.routes);
        otherRoutes.removeAt(i);
        return compressor.compress(otherRoutes);
    }

    private static int numberOrNotFound(int number) {
        return number < 0 ? NOT_FOUND : number;
    }

    // ---- prefixes ----
    // A prefix is one long, its key: its value, shifted, and its length. So the order of the keys
    // is the order of the prefixes. Inside the class, addresses are longs from 0 to 2^32 - 1.

    private static boolean isPrefix(int value, int length) {
        return length >= 0 && length <= MOST_LENGTH && isAligned(value & LOW_32_BITS, length);
    }

    private static boolean isAligned(long value, int length) {
        return (value & ((ALL_ADDRESSES >>> length) - 1)) == 0;
    }

    private static long keyOf(long value, int length) {
        return value << LENGTH_BITS | length;
    }

    private static long startOf(long key) {
        return key >>> LENGTH_BITS;
    }

    private static int lengthOf(long key) {
        return (int) (key & LENGTH_MASK);
    }

    /** The first address behind the prefix. */
    private static long endOf(long key) {
        return (key >>> LENGTH_BITS) + (ALL_ADDRESSES >>> (key & LENGTH_MASK));
    }

    private static boolean contains(long key, long address) {
        return startOf(key) <= address && address < endOf(key);
    }

    /** Prefixes in their order, each with a hop or an action. */
    private static final class PrefixSet {
        final long[] keys;
        final int[] hops;
        int size;

        PrefixSet(int most) {
            keys = new long[most];
            hops = new int[most];
        }

        void copyFrom(PrefixSet other) {
            int kept = Math.min(other.size, keys.length);
            System.arraycopy(other.keys, 0, keys, 0, kept);
            System.arraycopy(other.hops, 0, hops, 0, kept);
            size = kept;
        }

        /** The number of prefixes before this one in the order. */
        private int placeOf(long key) {
            int at = 0;
            while (at < size && keys[at] < key) {
                at++;
            }
            return at;
        }

        int indexOf(long key) {
            int at = placeOf(key);
            return at < size && keys[at] == key ? at : NONE;
        }

        /** The longest prefix that contains an address: of those that do, the last in order. */
        int longest(long address) {
            for (int i = size - 1; i >= 0; i--) {
                if (contains(keys[i], address)) {
                    return i;
                }
            }
            return NONE;
        }

        boolean answersByHop(long address) {
            int at = longest(address);
            return at >= 0 && hops[at] != EXCEPTION;
        }

        /** Puts a prefix in, or changes its hop. */
        void put(long key, int hop) {
            int at = placeOf(key);
            if (at < size && keys[at] == key) {
                hops[at] = hop;
                return;
            }
            if (size >= keys.length) {
                return;
            }
            System.arraycopy(keys, at, keys, at + 1, size - at);
            System.arraycopy(hops, at, hops, at + 1, size - at);
            keys[at] = key;
            hops[at] = hop;
            size++;
        }

        void removeAt(int at) {
            if (at < 0 || at >= size) {
                return;
            }
            size--;
            System.arraycopy(keys, at + 1, keys, at, size - at);
            System.arraycopy(hops, at + 1, hops, at, size - at);
        }

        /** Removes all prefixes inside this one and returns their number. */
        int removeInside(long outer) {
            int left = 0;
            for (int i = 0; i < size; i++) {
                boolean inside = lengthOf(keys[i]) >= lengthOf(outer) && contains(outer, startOf(keys[i]));
                if (!inside) {
                    keys[left] = keys[i];
                    hops[left] = hops[i];
                    left++;
                }
            }
            int removed = size - left;
            size = left;
            return removed;
        }

        boolean hasProperlyAround(long inner) {
            for (int i = 0; i < size; i++) {
                if (lengthOf(keys[i]) < lengthOf(inner) && contains(keys[i], startOf(inner))) {
                    return true;
                }
            }
            return false;
        }

        /** What the face tells of a prefix: 0 its value, 1 its length, 2 its hop or action. */
        long tell(int i, int what) {
            if (what == 0) {
                return startOf(keys[i]);
            }
            return what == 1 ? lengthOf(keys[i]) : hops[i];
        }
    }

    /** Addresses with counts, in the order in which they came. */
    private static final class TrafficLog {
        final long[] seen = new long[MOST_LOGGED];
        final int[] times = new int[MOST_LOGGED];
        int size;

        void copyFrom(TrafficLog other) {
            System.arraycopy(other.seen, 0, seen, 0, other.size);
            System.arraycopy(other.times, 0, times, 0, other.size);
            size = other.size;
        }

        int indexOf(long address) {
            for (int i = 0; i < size; i++) {
                if (seen[i] == address) {
                    return i;
                }
            }
            return NONE;
        }

        void see(long address, int n) {
            int at = indexOf(address);
            if (at >= 0) {
                times[at] = Math.min(times[at] + n, MOST_COUNT);
                return;
            }
            if (size >= MOST_LOGGED) {
                removeAt(rarest());
            }
            seen[size] = address;
            times[size] = n;
            size++;
        }

        private int rarest() {
            int best = 0;
            for (int i = 1; i < size; i++) {
                if (times[i] < times[best]) {
                    best = i;
                }
            }
            return best;
        }

        private void removeAt(int at) {
            size--;
            System.arraycopy(seen, at + 1, seen, at, size - at);
            System.arraycopy(times, at + 1, times, at, size - at);
        }

        /** Halves all counts, drops the addresses that have none left, and returns their number. */
        int halve() {
            int left = 0;
            for (int i = 0; i < size; i++) {
                if (times[i] > 1) {
                    seen[left] = seen[i];
                    times[left] = times[i] / 2;
                    left++;
                }
            }
            int dropped = size - left;
            size = left;
            return dropped;
        }

        /** The sum of the counts of the addresses for which this hardware has no hop. */
        int missedBy(PrefixSet hardware) {
            int sum = 0;
            for (int i = 0; i < size; i++) {
                if (!hardware.answersByHop(seen[i])) {
                    sum += times[i];
                }
            }
            return sum;
        }
    }

    /** All that undo() restores. */
    private static final class State {
        int capacity = FIRST_CAPACITY;
        final PrefixSet routes = new PrefixSet(MOST_ROUTES);
        final PrefixSet hardware = new PrefixSet(MOST_ROOM);
        final TrafficLog log = new TrafficLog();
        final long[] counts = new long[COUNTS];

        void reset() {
            capacity = FIRST_CAPACITY;
            routes.size = 0;
            hardware.size = 0;
            log.size = 0;
            for (int i = 0; i < COUNTS; i++) {
                counts[i] = 0;
            }
        }

        void copyFrom(State other) {
            capacity = other.capacity;
            routes.copyFrom(other.routes);
            hardware.copyFrom(other.hardware);
            log.copyFrom(other.log);
            System.arraycopy(other.counts, 0, counts, 0, COUNTS);
        }

        /** How many prefixes the hardware has room for. */
        int room() {
            return 2 * capacity;
        }

        void emptyHardware() {
            if (hardware.size > 0) {
                counts[CHURN] += hardware.size;
                counts[CLEARINGS]++;
                hardware.size = 0;
            }
        }

        /** Takes what may be wrong now out of the hardware; returns the increase of the churn. */
        int routeChanged(long key) {
            long churnBefore = counts[CHURN];
            counts[ROUTE_CHANGES]++;
            counts[CHURN] += hardware.removeInside(key);
            if (hardware.hasProperlyAround(key)) {
                if (hardware.size < room()) {
                    hardware.put(key, EXCEPTION);
                    counts[CHURN]++;
                } else {
                    emptyHardware();
                }
            }
            return (int) (counts[CHURN] - churnBefore);
        }
    }

    /** The states before the latest operations, in a ring. */
    private static final class History {
        final State[] past = new State[MOST_UNDOS];
        int size;
        private int next;

        History() {
            for (int i = 0; i < MOST_UNDOS; i++) {
                past[i] = new State();
            }
        }

        void forget() {
            size = 0;
        }

        void save(State now) {
            past[next].copyFrom(now);
            next = next + 1 < MOST_UNDOS ? next + 1 : 0;
            size = Math.min(size + 1, MOST_UNDOS);
        }

        boolean restore(State now) {
            if (size == 0) {
                return false;
            }
            next = next > 0 ? next - 1 : MOST_UNDOS - 1;
            now.copyFrom(past[next]);
            size--;
            return true;
        }
    }

    /** The tape, and the reading of the text on it. */
    private static final class Tape {
        private static final int END = 0;
        private static final int BAD = 1;
        private static final int NUMBER = 2;
        private static final int CAPACITY_WORD = 3;
        private static final int ROUTE_WORD = 4;
        private static final int HOP_WORD = 5;
        private static final int SEEN_WORD = 6;
        private static final int TIMES_WORD = 7;
        // Signs are their own kinds; all are above the kinds here.

        final byte[] bytes = new byte[MOST_TAPE];
        int size;
        /** Where the current token begins; when the reading stops at it, the error position. */
        int start;
        private int position;
        private int kind;
        private int number;
        /** The address that was read last. */
        private long value;

        void addFour(int word) {
            for (int shift = 24; shift >= 0 && size < MOST_TAPE; shift -= 8) {
                bytes[size] = (byte) (word >>> shift);
                size++;
            }
        }

        /** Reads the text; if this fails, the current token is the one that cannot stand. */
        boolean readInto(State table) {
            position = 0;
            step();
            if (!take(CAPACITY_WORD) || !isNumber(1, MOST_CAPACITY)) {
                return false;
            }
            table.capacity = number;
            step();
            if (!take(';')) {
                return false;
            }
            for (int i = 0; i <= MOST_ROUTES && kind == ROUTE_WORD; i++) {
                if (!readRoute(table.routes)) {
                    return false;
                }
            }
            for (int i = 0; i <= MOST_LOGGED && kind == SEEN_WORD; i++) {
                if (!readSeen(table.log)) {
                    return false;
                }
            }
            return kind == END;
        }

        private boolean readRoute(PrefixSet routes) {
            if (routes.size >= MOST_ROUTES) {
                return false;
            }
            step();
            if (!readAddress()) {
                return false;
            }
            step();
            if (!take('/') || !isNumber(0, MOST_LENGTH) || !isAligned(value, number)) {
                return false;
            }
            long key = keyOf(value, number);
            if (routes.indexOf(key) >= 0) {
                return false;
            }
            step();
            if (!take(HOP_WORD) || !isNumber(0, MOST_HOP)) {
                return false;
            }
            routes.put(key, number);
            step();
            return take(';');
        }

        private boolean readSeen(TrafficLog log) {
            if (log.size >= MOST_LOGGED) {
                return false;
            }
            step();
            if (!readAddress() || log.indexOf(value) >= 0) {
                return false;
            }
            step();
            if (!take(TIMES_WORD) || !isNumber(1, 999)) {
                return false;
            }
            log.see(value, number);
            step();
            return take(';');
        }

        /** Reads four bytes; the last one stays the current token, as its value may be refused. */
        private boolean readAddress() {
            value = 0;
            for (int i = 0; i < 4; i++) {
                if (i > 0) {
                    step();
                    if (kind != '.') {
                        return false;
                    }
                    step();
                }
                if (!isNumber(0, 255)) {
                    return false;
                }
                value = value << 8 | number;
            }
            return true;
        }

        private boolean isNumber(int least, int most) {
            return kind == NUMBER && number >= least && number <= most;
        }

        private boolean take(int wanted) {
            if (kind != wanted) {
                return false;
            }
            step();
            return true;
        }

        /** Goes on to the next token. */
        private void step() {
            while (position < size && (bytes[position] == ' ' || bytes[position] == '\n')) {
                position++;
            }
            start = position;
            if (position >= size) {
                kind = END;
            } else if (isLetter(bytes[position])) {
                stepOverWord();
            } else if (isDigit(bytes[position])) {
                stepOverNumber();
            } else {
                int sign = bytes[position];
                kind = sign == ';' || sign == '.' || sign == '/' ? sign : BAD;
                position++;
            }
        }

        private void stepOverWord() {
            while (position < size && isLetter(bytes[position])) {
                position++;
            }
            if (spells("capacity")) {
                kind = CAPACITY_WORD;
            } else if (spells("route")) {
                kind = ROUTE_WORD;
            } else if (spells("hop")) {
                kind = HOP_WORD;
            } else if (spells("seen")) {
                kind = SEEN_WORD;
            } else {
                kind = spells("times") ? TIMES_WORD : BAD;
            }
        }

        private boolean spells(String word) {
            if (position - start != word.length()) {
                return false;
            }
            for (int i = 0; i < word.length(); i++) {
                if (bytes[start + i] != word.charAt(i)) {
                    return false;
                }
            }
            return true;
        }

        private void stepOverNumber() {
            number = 0;
            while (position < size && isDigit(bytes[position])) {
                if (position - start < 3) {
                    number = number * 10 + bytes[position] - '0';
                }
                position++;
            }
            kind = position - start <= 3 ? NUMBER : BAD;
        }

        private static boolean isLetter(int sign) {
            return sign >= 'a' && sign <= 'z';
        }

        private static boolean isDigit(int sign) {
            return sign >= '0' && sign <= '9';
        }
    }

    /** How a set of prefixes covers the addresses: found in one walk from the first to the last. */
    private static final class Cover {
        /** The longest prefix of the set around each one, or NONE. */
        final int[] parent;
        /** How many prefixes of the set lie properly around each one. */
        final int[] depth;
        /** The number of addresses for which each one is the longest. */
        final long[] own;
        /** Runs of addresses with the same hop; addresses without a prefix have the hop 0. */
        final long[] runStart;
        final int[] runHop;
        int runs;
        int deepest;
        // The prefixes around the place where the walk is, the longest one last.
        private final int[] open = new int[MOST_LENGTH + 1];
        private int opened;
        private long walked;

        Cover(int most) {
            parent = new int[most];
            depth = new int[most];
            own = new long[most];
            runStart = new long[2 * most + 1];
            runHop = new int[2 * most + 1];
        }

        void sweep(PrefixSet set) {
            runs = 0;
            deepest = 0;
            opened = 0;
            walked = 0;
            for (int i = 0; i < set.size && i < parent.length; i++) {
                long start = startOf(set.keys[i]);
                leaveUpTo(start, set);
                walkTo(start, set);
                parent[i] = innermost();
                depth[i] = opened;
                own[i] = 0;
                if (opened < open.length) {
                    open[opened] = i;
                    opened++;
                }
                deepest = Math.max(deepest, opened);
            }
            leaveUpTo(ALL_ADDRESSES, set);
            walkTo(ALL_ADDRESSES, set);
        }

        long runEnd(int i) {
            return i + 1 < runs ? runStart[i + 1] : ALL_ADDRESSES;
        }

        private int innermost() {
            return opened > 0 ? open[opened - 1] : NONE;
        }

        /** Leaves the prefixes that end up to an address. */
        private void leaveUpTo(long address, PrefixSet set) {
            while (opened > 0 && endOf(set.keys[open[opened - 1]]) <= address) {
                walkTo(endOf(set.keys[open[opened - 1]]), set);
                opened--;
            }
        }

        /** Walks on to an address; the innermost prefix is the longest one for those between. */
        private void walkTo(long address, PrefixSet set) {
            if (address <= walked) {
                return;
            }
            int at = innermost();
            int hop = 0;
            if (at >= 0) {
                hop = set.hops[at];
                own[at] += address - walked;
            }
            boolean goesOn = runs > 0 && runHop[runs - 1] == hop;
            if (!goesOn && runs < runStart.length) {
                runStart[runs] = walked;
                runHop[runs] = hop;
                runs++;
            }
            walked = address;
        }
    }

    /**
     * Finds the compressed table (section 3 of the document). It looks at a prefix P as a node with
     * the routes properly inside it. Where all of these lie deeper than in one half of P, P is
     * followed at once by the longest prefix around them: S(P), and that of each prefix left out
     * but the last, is the answer around the routes alone, and the last one's has it too, so no
     * prefix left out and no other half can get an entry.
     */
    private static final class Compressor {
        // At most 119 prefixes have a route or routes in both halves; each may bring one half
        // above it and one half beside it, and the prefix of length 0 comes first.
        private static final int MOST_NODES = 360;
        private static final int EVERY_HOP = (1 << (MOST_HOP + 1)) - 1;

        // Nodes come behind the nodes around them.
        private final long[] keys = new long[MOST_NODES];
        private final int[] first = new int[MOST_NODES];
        private final int[] behind = new int[MOST_NODES];
        private final int[] outer = new int[MOST_NODES];
        /** The answer for the addresses of the node that no route inside it contains. */
        private final int[] around = new int[MOST_NODES];
        private final boolean[] split = new boolean[MOST_NODES];
        private final int[] inBoth = new int[MOST_NODES];
        private final int[] inOne = new int[MOST_NODES];
        /** The hop inherited by what is inside the node. */
        private final int[] handed = new int[MOST_NODES];
        /** The hop of the node's entry, or NONE. */
        private final int[] entryHop = new int[MOST_NODES];
        private int nodes;

        /** Returns the number of entries for these routes. */
        int compress(PrefixSet routes) {
            nodes = 0;
            addNode(keyOf(0, 0), 0, routes.size, NONE, 0);
            for (int i = 0; i < nodes && i < MOST_NODES; i++) {
                open(i, routes);
            }
            gatherSets();
            return handDown();
        }

        /** Puts the entries into a set. */
        void collect(PrefixSet entries) {
            entries.size = 0;
            for (int i = 0; i < nodes; i++) {
                if (entryHop[i] >= 0) {
                    entries.put(keys[i], entryHop[i]);
                }
            }
        }

        private void addNode(long key, int from, int to, int outerNode, int answer) {
            if (nodes >= MOST_NODES) {
                return;
            }
            keys[nodes] = key;
            first[nodes] = from;
            behind[nodes] = to;
            outer[nodes] = outerNode;
            around[nodes] = answer;
            split[nodes] = false;
            inBoth[nodes] = EVERY_HOP;
            inOne[nodes] = 0;
            nodes++;
        }

        /** Adds the nodes next inside a node. */
        private void open(int node, PrefixSet routes) {
            int from = first[node];
            int to = behind[node];
            if (from < to && routes.keys[from] == keys[node]) {
                around[node] = routes.hops[from];
                from++;
            }
            if (from >= to) {
                return;
            }
            long start = startOf(keys[node]);
            int length = lengthOf(keys[node]);
            int common = commonLength(routes.keys[from], routes.keys[to - 1], length);
            if (common > length + 1) {
                long value = startOf(routes.keys[from]);
                long inner = value - (value & ((ALL_ADDRESSES >>> common) - 1));
                addNode(keyOf(inner, common), from, to, node, around[node]);
                return;
            }
            split[node] = true;
            long half = ALL_ADDRESSES >>> (length + 1);
            int middle = from;
            while (middle < to && startOf(routes.keys[middle]) < start + half) {
                middle++;
            }
            addNode(keyOf(start, length + 1), from, middle, node, around[node]);
            addNode(keyOf(start + half, length + 1), middle, to, node, around[node]);
        }

        /** The length of the longest prefix around the routes from the first to the last one. */
        private static int commonLength(long firstKey, long lastKey, int least) {
            long different = startOf(firstKey) ^ startOf(lastKey);
            int length = least;
            while (length < lengthOf(firstKey) && different >>> (MOST_LENGTH - 1 - length) == 0) {
                length++;
            }
            return length;
        }

        private int setOf(int node) {
            if (!split[node]) {
                return 1 << around[node];
            }
            return inBoth[node] != 0 ? inBoth[node] : inOne[node];
        }

        private void gatherSets() {
            for (int i = nodes - 1; i >= 0; i--) {
                int hops = setOf(i);
                if (outer[i] >= 0) {
                    inBoth[outer[i]] &= hops;
                    inOne[outer[i]] |= hops;
                }
            }
        }

        /** Treats the nodes with their inherited hops and returns the number of entries. */
        private int handDown() {
            int sum = 0;
            for (int i = 0; i < nodes; i++) {
                int inherited = outer[i] < 0 ? 0 : handed[outer[i]];
                int hops = setOf(i);
                if ((hops & 1 << inherited) != 0) {
                    entryHop[i] = NONE;
                    handed[i] = inherited;
                } else {
                    entryHop[i] = smallestHop(hops);
                    handed[i] = entryHop[i];
                    sum++;
                }
            }
            return sum;
        }

        private static int smallestHop(int hops) {
            int hop = 0;
            while (hop < MOST_HOP && (hops & 1 << hop) == 0) {
                hop++;
            }
            return hop;
        }
    }

    /**
     * The best choice (section 5 of the document). Kept entries are the bits of a long, entry 0 the
     * highest one: of choices with the same hits and places the best has the greatest long, and
     * this, like the hits, is a sum over the entries.
     */
    private static final class Choice {
        private static final int DEPTHS = MOST_LENGTH + 2;

        final int[] entryHits = new int[MOST_ROUTES];
        final PrefixSet target = new PrefixSet(MOST_ROUTES);
        private int allHits;
        private long kept;

        // Row 2 d + k: for each number of places, the most hits that the entries at depth d, inside
        // a parent that is kept (k = 1) or not (k = 0), can give with all inside them, and which
        // are kept then. NONE where that number of places cannot be.
        private final int[][] rowHits = new int[2 * DEPTHS][MOST_ROUTES + 1];
        private final long[][] rowKept = new long[2 * DEPTHS][MOST_ROUTES + 1];
        /** The greatest number of places in the rows of each depth. */
        private final int[] rowMost = new int[DEPTHS];
        // The same for one entry with all inside it.
        private final int[] oneHits = new int[MOST_ROUTES + 1];
        private final long[] oneKept = new long[MOST_ROUTES + 1];

        void countHits(PrefixSet entries, TrafficLog log) {
            for (int i = 0; i < entries.size; i++) {
                entryHits[i] = 0;
            }
            allHits = 0;
            for (int i = 0; i < log.size; i++) {
                int at = entries.longest(log.seen[i]);
                if (at >= 0) {
                    entryHits[at] += log.times[i];
                    allHits += log.times[i];
                }
            }
        }

        /** Fills the rows. An entry comes before all inside it, so the last ones go first. */
        void weigh(Cover cover, int entries) {
            for (int depth = 0; depth < DEPTHS; depth++) {
                emptyRows(depth);
            }
            for (int i = entries - 1; i >= 0; i--) {
                int depth = Math.min(cover.depth[i], DEPTHS - 2);
                int places = Math.min(rowMost[depth + 1] + 1, MOST_ROUTES);
                for (int parentKept = 0; parentKept <= 1; parentKept++) {
                    weighOne(i, depth + 1, parentKept);
                    join(depth, parentKept, places);
                }
                rowMost[depth] = Math.min(rowMost[depth] + places, MOST_ROUTES);
                emptyRows(depth + 1);
            }
        }

        private void emptyRows(int depth) {
            rowMost[depth] = 0;
            for (int row = 2 * depth; row <= 2 * depth + 1; row++) {
                rowHits[row][0] = 0;
                rowKept[row][0] = 0;
            }
        }

        private static long bitOf(int entry) {
            return 1L << (MOST_ROUTES - 1 - entry);
        }

        /** Weighs an entry, kept or not, with the rows of what is inside it. */
        private void weighOne(int entry, int inside, int parentKept) {
            int most = rowMost[inside];
            int[] hitsIfKept = rowHits[2 * inside + 1];
            int[] hitsIfNot = rowHits[2 * inside];
            long[] keptIfNot = rowKept[2 * inside];
            for (int places = 0; places <= most + 1 && places <= MOST_ROUTES; places++) {
                int hits = NONE;
                long bits = 0;
                if (places > 0 && hitsIfKept[places - 1] >= 0) {
                    hits = hitsIfKept[places - 1] + entryHits[entry];
                    bits = rowKept[2 * inside + 1][places - 1] | bitOf(entry);
                }
                // An entry that is not kept takes a place, as an exception, inside a kept parent.
                int left = places - parentKept;
                if (left >= 0 && left <= most && isBetter(hitsIfNot[left], keptIfNot[left], hits, bits)) {
                    hits = hitsIfNot[left];
                    bits = keptIfNot[left];
                }
                oneHits[places] = hits;
                oneKept[places] = bits;
            }
        }

        /** Adds the one entry to a row: the larger numbers of places first, to use the row again. */
        private void join(int depth, int parentKept, int oneMost) {
            int[] hitsRow = rowHits[2 * depth + parentKept];
            long[] keptRow = rowKept[2 * depth + parentKept];
            int most = rowMost[depth];
            for (int places = Math.min(most + oneMost, MOST_ROUTES); places >= 0; places--) {
                int hits = NONE;
                long bits = 0;
                int upTo = Math.min(places, oneMost);
                for (int one = Math.max(0, places - most); one <= upTo; one++) {
                    int rest = places - one;
                    if (oneHits[one] < 0 || hitsRow[rest] < 0) {
                        continue;
                    }
                    int sum = hitsRow[rest] + oneHits[one];
                    long together = keptRow[rest] | oneKept[one];
                    if (isBetter(sum, together, hits, bits)) {
                        hits = sum;
                        bits = together;
                    }
                }
                hitsRow[places] = hits;
                keptRow[places] = bits;
            }
        }

        private static boolean isBetter(int hits, long bits, int thanHits, long thanBits) {
            return hits > thanHits || hits == thanHits && bits > thanBits;
        }

        /** The places of the best choice with a capacity. */
        int placesWith(int capacity) {
            int best = 0;
            int most = Math.min(capacity, rowMost[0]);
            for (int places = 1; places <= most; places++) {
                if (rowHits[0][places] > rowHits[0][best]) {
                    best = places;
                }
            }
            return best;
        }

        int lostWith(int capacity) {
            return allHits - rowHits[0][placesWith(capacity)];
        }

        boolean isKept(int entry) {
            return (kept & bitOf(entry)) != 0;
        }

        void choose(PrefixSet entries, Cover cover, int capacity) {
            kept = rowKept[0][placesWith(capacity)];
            target.size = 0;
            for (int i = 0; i < entries.size; i++) {
                int parent = cover.parent[i];
                if (isKept(i)) {
                    target.put(entries.keys[i], entries.hops[i]);
                } else if (parent >= 0 && isKept(parent)) {
                    target.put(entries.keys[i], EXCEPTION);
                }
            }
        }
    }

    /** The changes that bring the hardware to the target, in their order. */
    private static final class SyncPlan {
        private static final int MOST_CHANGES = MOST_ROOM + MOST_ROUTES;

        final long[] keys = new long[MOST_CHANGES];
        final int[] kinds = new int[MOST_CHANGES];
        final int[] actions = new int[MOST_CHANGES];
        private final int[] ranks = new int[MOST_CHANGES];
        int size;
        /** Whether the hardware is cleared first. */
        boolean clears;

        void make(PrefixSet hardware, PrefixSet target, int room) {
            size = 0;
            clears = countTogether(hardware, target) > room;
            for (int i = 0; i < target.size; i++) {
                long key = target.keys[i];
                int action = target.hops[i];
                int at = clears ? NONE : hardware.indexOf(key);
                if (at < 0) {
                    add(MOST_LENGTH - lengthOf(key), key, PUT_IN, action);
                } else if (hardware.hops[at] != action) {
                    add(MOST_LENGTH - lengthOf(key), key, ACTION_CHANGED, action);
                }
            }
            for (int i = 0; i < hardware.size && !clears; i++) {
                long key = hardware.keys[i];
                if (target.indexOf(key) < 0) {
                    add(MOST_LENGTH + 1 + lengthOf(key), key, REMOVED, hardware.hops[i]);
                }
            }
        }

        private static int countTogether(PrefixSet hardware, PrefixSet target) {
            int sum = hardware.size;
            for (int i = 0; i < target.size; i++) {
                if (hardware.indexOf(target.keys[i]) < 0) {
                    sum++;
                }
            }
            return sum;
        }

        /** Adds a change behind all whose rank is not greater. */
        private void add(int rank, long key, int kind, int action) {
            if (size >= MOST_CHANGES) {
                return;
            }
            int at = size;
            while (at > 0 && ranks[at - 1] > rank) {
                ranks[at] = ranks[at - 1];
                keys[at] = keys[at - 1];
                kinds[at] = kinds[at - 1];
                actions[at] = actions[at - 1];
                at--;
            }
            ranks[at] = rank;
            keys[at] = key;
            kinds[at] = kind;
            actions[at] = action;
            size++;
        }

        /** Makes the first changes, at most as many as the limit, and returns their number. */
        int makeChanges(PrefixSet hardware, int limit) {
            int made = Math.min(limit, size);
            for (int i = 0; i < made; i++) {
                if (kinds[i] == REMOVED) {
                    hardware.removeAt(hardware.indexOf(keys[i]));
                } else {
                    hardware.put(keys[i], actions[i]);
                }
            }
            return made;
        }
    }

    /** The bytes of a report. */
    private static final class Report {
        // 80 lines for the hardware, each with at most 22 bytes: no report is longer.
        private static final int MOST_BYTES = 22 * MOST_ROOM;

        final byte[] bytes = new byte[MOST_BYTES];
        int size;
        /** The kind of the report that stands here, or NONE. */
        int kind = NONE;

        void addPrefixes(PrefixSet set) {
            for (int i = 0; i < set.size; i++) {
                addAddress(startOf(set.keys[i]));
                addSign('/');
                addNumber(lengthOf(set.keys[i]));
                addSign(' ');
                if (set.hops[i] == EXCEPTION) {
                    addSign('x');
                } else {
                    addNumber(set.hops[i]);
                }
                addSign('\n');
            }
        }

        void addTraffic(TrafficLog log) {
            for (int i = 0; i < log.size; i++) {
                addAddress(log.seen[i]);
                addSign(' ');
                addNumber(log.times[i]);
                addSign('\n');
            }
        }

        private void addAddress(long address) {
            for (int shift = 24; shift >= 0; shift -= 8) {
                addNumber((int) (address >>> shift & 255));
                if (shift > 0) {
                    addSign('.');
                }
            }
        }

        private void addNumber(int number) {
            int unit = 1;
            while (unit < 100000 && number / unit >= 10) {
                unit *= 10;
            }
            for (; unit > 0; unit /= 10) {
                addSign('0' + number / unit % 10);
            }
        }

        private void addSign(int sign) {
            if (size < MOST_BYTES) {
                bytes[size] = (byte) sign;
                size++;
            }
        }
    }
}
