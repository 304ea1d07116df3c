import java.util.ArrayDeque;
import java.util.ArrayList;
import java.util.Arrays;
import java.util.Comparator;
import java.util.Deque;
import java.util.HashSet;
import java.util.LinkedHashMap;
import java.util.List;
import java.util.Map;
import java.util.Set;
import java.util.TreeMap;
import java.util.TreeSet;

/**
 * The document once more, word for word and as slow as it likes, to be compared with the class.
 * It shares no code and no way of working with it.
 */
final class Model {
    static final int INVALID = -1;
    static final int NOT_FOUND = -2;
    static final int FULL = -3;
    static final int EXCEPTION = 16;
    static final long ALL = 1L << 32;

    record Prefix(long value, int length) {
        long size() {
            return 1L << (32 - length);
        }

        boolean contains(long address) {
            return address >= value && address < value + size();
        }

        boolean isInside(Prefix outer) {
            return outer.value <= value && value + size() <= outer.value + outer.size();
        }

        boolean isProperlyInside(Prefix outer) {
            return isInside(outer) && !equals(outer);
        }

        Prefix half(int which) {
            return new Prefix(value + which * (size() / 2), length + 1);
        }
    }

    record Change(Prefix prefix, int kind, int action) {
    }

    static final Comparator<Prefix> ORDER =
            Comparator.comparingLong(Prefix::value).thenComparingInt(Prefix::length);

    /** All that undo restores. */
    static final class State {
        int capacity = 8;
        TreeMap<Prefix, Integer> routes = new TreeMap<>(ORDER);
        TreeMap<Prefix, Integer> hardware = new TreeMap<>(ORDER);
        LinkedHashMap<Long, Integer> log = new LinkedHashMap<>();
        long[] counts = new long[5];

        State copy() {
            State c = new State();
            c.capacity = capacity;
            c.routes.putAll(routes);
            c.hardware.putAll(hardware);
            c.log.putAll(log);
            c.counts = counts.clone();
            return c;
        }
    }

    State now = new State();
    final Deque<State> past = new ArrayDeque<>();
    StringBuilder tape = new StringBuilder();
    int errorPosition = NOT_FOUND;

    // ---- helpers ----

    static long unsigned(int address) {
        return address & 0xFFFFFFFFL;
    }

    static Prefix longest(TreeMap<Prefix, Integer> set, long address) {
        Prefix best = null;
        for (Prefix p : set.keySet()) {
            if (p.contains(address) && (best == null || p.length() > best.length())) {
                best = p;
            }
        }
        return best;
    }

    static int answer(TreeMap<Prefix, Integer> set, long address) {
        Prefix p = longest(set, address);
        return p == null ? 0 : set.get(p);
    }

    static int number(TreeMap<Prefix, Integer> set, Prefix p) {
        return p == null ? NOT_FOUND : new ArrayList<>(set.keySet()).indexOf(p);
    }

    static Prefix at(TreeMap<Prefix, Integer> set, int i) {
        return i < set.size() ? new ArrayList<>(set.keySet()).get(i) : null;
    }

    static Prefix parent(TreeMap<Prefix, Integer> set, Prefix inner) {
        Prefix best = null;
        for (Prefix p : set.keySet()) {
            if (inner.isProperlyInside(p) && (best == null || p.length() > best.length())) {
                best = p;
            }
        }
        return best;
    }

    /** Addresses at which the longest prefix can become another one, ascending, with 0. */
    static List<Long> boundaries(TreeMap<Prefix, Integer> set) {
        TreeSet<Long> all = new TreeSet<>();
        all.add(0L);
        for (Prefix p : set.keySet()) {
            all.add(p.value());
            if (p.value() + p.size() < ALL) {
                all.add(p.value() + p.size());
            }
        }
        return new ArrayList<>(all);
    }

    static long end(List<Long> boundaries, int i) {
        return i + 1 < boundaries.size() ? boundaries.get(i + 1) : ALL;
    }

    void remember() {
        past.addLast(now.copy());
        if (past.size() > 8) {
            past.removeFirst();
        }
    }

    // ---- the tape ----

    int append(int... words) {
        if (tape.length() + 20 > 2200) {
            return INVALID;
        }
        for (int w : words) {
            for (int shift = 24; shift >= 0; shift -= 8) {
                tape.append((char) (w >>> shift & 255));
            }
        }
        return tape.length();
    }

    int truncate(int n) {
        if (n < 0 || n > tape.length()) {
            return INVALID;
        }
        tape.setLength(tape.length() - n);
        return tape.length();
    }

    int tapeLength() {
        return tape.length();
    }

    int load() {
        ModelText text = new ModelText(tape.toString());
        tape.setLength(0);
        errorPosition = text.error;
        if (text.error >= 0) {
            return INVALID;
        }
        now = text.table;
        past.clear();
        return now.routes.size();
    }

    int errorPosition() {
        return errorPosition;
    }

    // ---- routes ----

    int capacity() {
        return now.capacity;
    }

    boolean setCapacity(int n) {
        if (n < 1 || n > 40 || n == now.capacity) {
            return false;
        }
        remember();
        now.capacity = n;
        if (now.hardware.size() > 2 * n) {
            empty();
        }
        return true;
    }

    int routes() {
        return now.routes.size();
    }

    long route(int i, int what) {
        if (i < 0 || what < 0 || what > 4) {
            return INVALID;
        }
        Prefix p = at(now.routes, i);
        if (p == null) {
            return NOT_FOUND;
        }
        switch (what) {
            case 0:
                return p.value();
            case 1:
                return p.length();
            case 2:
                return now.routes.get(p);
            case 3:
                return number(now.routes, parent(now.routes, p));
            default:
                List<Long> b = boundaries(now.routes);
                long sum = 0;
                for (int k = 0; k < b.size(); k++) {
                    if (p.equals(longest(now.routes, b.get(k)))) {
                        sum += end(b, k) - b.get(k);
                    }
                }
                return sum;
        }
    }

    static boolean isPrefix(int value, int length) {
        return length >= 0 && length <= 32 && unsigned(value) % (1L << (32 - length)) == 0;
    }

    int addRoute(int value, int length, int hop) {
        if (!isPrefix(value, length) || hop < 0 || hop > 15) {
            return INVALID;
        }
        Prefix p = new Prefix(unsigned(value), length);
        Integer had = now.routes.get(p);
        if (had != null && had == hop) {
            return NOT_FOUND;
        }
        if (had == null && now.routes.size() == 60) {
            return FULL;
        }
        remember();
        now.routes.put(p, hop);
        return touched(p);
    }

    int removeRoute(int value, int length) {
        if (!isPrefix(value, length)) {
            return INVALID;
        }
        Prefix p = new Prefix(unsigned(value), length);
        if (!now.routes.containsKey(p)) {
            return NOT_FOUND;
        }
        remember();
        now.routes.remove(p);
        return touched(p);
    }

    private int touched(Prefix p) {
        long before = now.counts[2];
        now.counts[3]++;
        for (Prefix h : new ArrayList<>(now.hardware.keySet())) {
            if (h.isInside(p)) {
                now.hardware.remove(h);
                now.counts[2]++;
            }
        }
        boolean around = false;
        for (Prefix h : now.hardware.keySet()) {
            around |= p.isProperlyInside(h);
        }
        if (around && now.hardware.size() == 2 * now.capacity) {
            empty();
        } else if (around) {
            now.hardware.put(p, EXCEPTION);
            now.counts[2]++;
        }
        return (int) (now.counts[2] - before);
    }

    private void empty() {
        if (!now.hardware.isEmpty()) {
            now.counts[4]++;
        }
        now.counts[2] += now.hardware.size();
        now.hardware.clear();
    }

    int answer(int address) {
        return answer(now.routes, unsigned(address));
    }

    int matching(int address) {
        return number(now.routes, longest(now.routes, unsigned(address)));
    }

    // ---- traffic ----

    static boolean answers(TreeMap<Prefix, Integer> hardware, long address) {
        Prefix p = longest(hardware, address);
        return p != null && hardware.get(p) != EXCEPTION;
    }

    int packet(int address, int n) {
        if (n < 1 || n > 9999) {
            return INVALID;
        }
        remember();
        long a = unsigned(address);
        boolean hit = answers(now.hardware, a);
        now.counts[hit ? 0 : 1] += n;
        if (!now.log.containsKey(a) && now.log.size() == 40) {
            Long least = null;
            for (Map.Entry<Long, Integer> e : now.log.entrySet()) {
                if (least == null || e.getValue() < now.log.get(least)) {
                    least = e.getKey();
                }
            }
            now.log.remove(least);
        }
        now.log.put(a, Math.min(999999, now.log.getOrDefault(a, 0) + n));
        return hit ? 1 : 0;
    }

    int age() {
        if (now.log.isEmpty()) {
            return NOT_FOUND;
        }
        remember();
        int before = now.log.size();
        now.log.replaceAll((a, c) -> c / 2);
        now.log.values().removeIf(c -> c == 0);
        return before - now.log.size();
    }

    int logged() {
        return now.log.size();
    }

    long log(int i, int what) {
        if (i < 0 || what < 0 || what > 1) {
            return INVALID;
        }
        if (i >= now.log.size()) {
            return NOT_FOUND;
        }
        Long address = new ArrayList<>(now.log.keySet()).get(i);
        return what == 0 ? address : now.log.get(address);
    }

    // ---- the compressed table ----

    static TreeMap<Prefix, Integer> compress(TreeMap<Prefix, Integer> routes) {
        TreeMap<Prefix, Integer> result = new TreeMap<>(ORDER);
        Map<Prefix, Set<Integer>> sets = new java.util.HashMap<>();
        hops(new Prefix(0, 0), routes, sets);
        treat(new Prefix(0, 0), 0, sets, result);
        return result;
    }

    private static Set<Integer> hops(Prefix p, TreeMap<Prefix, Integer> routes, Map<Prefix, Set<Integer>> sets) {
        boolean any = false;
        for (Prefix r : routes.keySet()) {
            any |= r.isProperlyInside(p);
        }
        Set<Integer> set;
        if (!any) {
            set = new TreeSet<>(List.of(answer(routes, p.value())));
        } else {
            Set<Integer> low = hops(p.half(0), routes, sets);
            Set<Integer> high = hops(p.half(1), routes, sets);
            set = new TreeSet<>(low);
            set.retainAll(high);
            if (set.isEmpty()) {
                set.addAll(low);
                set.addAll(high);
            }
        }
        sets.put(p, set);
        return set;
    }

    private static void treat(Prefix p, int inherited, Map<Prefix, Set<Integer>> sets,
            TreeMap<Prefix, Integer> result) {
        Set<Integer> set = sets.get(p);
        int hop = inherited;
        if (!set.contains(inherited)) {
            hop = new TreeSet<>(set).first();
            result.put(p, hop);
        }
        if (p.length() < 32 && sets.containsKey(p.half(0))) {
            treat(p.half(0), hop, sets, result);
            treat(p.half(1), hop, sets, result);
        }
    }

    private TreeMap<Prefix, Integer> compressedOf = null;
    private TreeMap<Prefix, Integer> compressedTable = null;

    TreeMap<Prefix, Integer> entries() {
        if (compressedOf == null || !compressedOf.equals(now.routes)) {
            compressedOf = new TreeMap<>(now.routes);
            compressedTable = compress(now.routes);
        }
        return compressedTable;
    }

    int compressed() {
        return entries().size();
    }

    int[] hits() {
        TreeMap<Prefix, Integer> e = entries();
        int[] hits = new int[e.size()];
        for (Map.Entry<Long, Integer> l : now.log.entrySet()) {
            Prefix p = longest(e, l.getKey());
            if (p != null) {
                hits[number(e, p)] += l.getValue();
            }
        }
        return hits;
    }

    int[] parents() {
        TreeMap<Prefix, Integer> e = entries();
        int[] parents = new int[e.size()];
        for (int i = 0; i < parents.length; i++) {
            parents[i] = number(e, parent(e, at(e, i)));
        }
        return parents;
    }

    long entry(int i, int what) {
        if (i < 0 || what < 0 || what > 5) {
            return INVALID;
        }
        TreeMap<Prefix, Integer> e = entries();
        Prefix p = at(e, i);
        if (p == null) {
            return NOT_FOUND;
        }
        switch (what) {
            case 0:
                return p.value();
            case 1:
                return p.length();
            case 2:
                return e.get(p);
            case 3:
                return number(e, parent(e, p));
            case 4:
                return hits()[i];
            default:
                return best()[i] ? 1 : 0;
        }
    }

    int hopHits(int hop) {
        if (hop < 0 || hop > 15) {
            return INVALID;
        }
        int sum = 0;
        for (Map.Entry<Long, Integer> l : now.log.entrySet()) {
            sum += answer(now.routes, l.getKey()) == hop ? l.getValue() : 0;
        }
        return sum;
    }

    int busiest() {
        int[] hits = hits();
        int best = NOT_FOUND;
        for (int i = hits.length - 1; i >= 0; i--) {
            if (hits[i] > 0 && (best < 0 || hits[i] >= hits[best])) {
                best = i;
            }
        }
        return best;
    }

    // ---- the target ----

    boolean[] best() {
        return ModelChoice.best(hits(), parents(), now.capacity);
    }

    int coldest() {
        int[] hits = hits();
        boolean[] kept = best();
        int best = NOT_FOUND;
        for (int i = hits.length - 1; i >= 0; i--) {
            if (kept[i] && (best < 0 || hits[i] <= hits[best])) {
                best = i;
            }
        }
        return best;
    }

    TreeMap<Prefix, Integer> targetTable() {
        TreeMap<Prefix, Integer> e = entries();
        boolean[] kept = best();
        int[] parents = parents();
        TreeMap<Prefix, Integer> target = new TreeMap<>(ORDER);
        for (int i = 0; i < kept.length; i++) {
            if (kept[i]) {
                target.put(at(e, i), e.get(at(e, i)));
            } else if (parents[i] >= 0 && kept[parents[i]]) {
                target.put(at(e, i), EXCEPTION);
            }
        }
        return target;
    }

    int exceptions() {
        int sum = 0;
        for (int action : targetTable().values()) {
            sum += action == EXCEPTION ? 1 : 0;
        }
        return sum;
    }

    int targetSize() {
        return targetTable().size();
    }

    static long tell(TreeMap<Prefix, Integer> set, int i, int what) {
        if (i < 0 || what < 0 || what > 2) {
            return INVALID;
        }
        Prefix p = at(set, i);
        if (p == null) {
            return NOT_FOUND;
        }
        return what == 0 ? p.value() : what == 1 ? p.length() : set.get(p);
    }

    long target(int i, int what) {
        return tell(targetTable(), i, what);
    }

    int lostHits() {
        return lostHitsWith(now.capacity);
    }

    int lostHitsWith(int capacity) {
        if (capacity < 0 || capacity > 60) {
            return INVALID;
        }
        return ModelChoice.lost(hits(), parents(), capacity);
    }

    int enough() {
        int c = 0;
        while (lostHitsWith(c) != 0) {
            c++;
        }
        return c;
    }

    // ---- the hardware ----

    int hardwareSize() {
        return now.hardware.size();
    }

    long hardware(int i, int what) {
        return tell(now.hardware, i, what);
    }

    int action(int address) {
        Prefix p = longest(now.hardware, unsigned(address));
        return p == null ? NOT_FOUND : now.hardware.get(p);
    }

    /** Synchronises step by step, as section 6 tells; tells the changes and clears first if due. */
    static List<Change> synchronise(State s, TreeMap<Prefix, Integer> target, int limit) {
        Set<Prefix> together = new HashSet<>(s.hardware.keySet());
        together.addAll(target.keySet());
        if (together.size() > 2 * s.capacity) {
            s.counts[4]++;
            s.counts[2] += s.hardware.size();
            s.hardware.clear();
        }
        List<Change> made = new ArrayList<>();
        while (made.size() < limit) {
            Prefix next = null;
            for (Prefix p : target.keySet()) {
                if (!target.get(p).equals(s.hardware.get(p)) && (next == null || p.length() > next.length())) {
                    next = p;
                }
            }
            if (next != null) {
                int kind = s.hardware.containsKey(next) ? 1 : 0;
                s.hardware.put(next, target.get(next));
                made.add(new Change(next, kind, target.get(next)));
                continue;
            }
            for (Prefix p : s.hardware.keySet()) {
                if (!target.containsKey(p) && (next == null || p.length() < next.length())) {
                    next = p;
                }
            }
            if (next == null) {
                break;
            }
            made.add(new Change(next, 2, s.hardware.remove(next)));
        }
        s.counts[2] += made.size();
        return made;
    }

    List<Change> allChanges() {
        return synchronise(now.copy(), targetTable(), 1000);
    }

    int changes() {
        return allChanges().size();
    }

    long change(int i, int what) {
        if (i < 0 || what < 0 || what > 3) {
            return INVALID;
        }
        List<Change> all = allChanges();
        if (i >= all.size()) {
            return NOT_FOUND;
        }
        Change c = all.get(i);
        switch (what) {
            case 0:
                return c.prefix().value();
            case 1:
                return c.prefix().length();
            case 2:
                return c.kind();
            default:
                return c.action();
        }
    }

    static int missed(State s) {
        int sum = 0;
        for (Map.Entry<Long, Integer> l : s.log.entrySet()) {
            sum += answers(s.hardware, l.getKey()) ? 0 : l.getValue();
        }
        return sum;
    }

    int missed() {
        return missed(now);
    }

    int missedAfter(int limit) {
        if (limit < 0 || limit > 200) {
            return INVALID;
        }
        State s = now.copy();
        if (limit > 0) {
            synchronise(s, targetTable(), limit);
        }
        return missed(s);
    }

    int sync(int limit) {
        if (limit < 1 || limit > 200) {
            return INVALID;
        }
        if (changes() == 0) {
            return NOT_FOUND;
        }
        TreeMap<Prefix, Integer> target = targetTable();
        remember();
        return synchronise(now, target, limit).size();
    }

    int clear() {
        int size = now.hardware.size();
        if (size == 0) {
            return NOT_FOUND;
        }
        remember();
        empty();
        return size;
    }

    // ---- addresses and routes ----

    long addresses(int hop) {
        if (hop < 0 || hop > 15) {
            return INVALID;
        }
        List<Long> b = boundaries(now.routes);
        long sum = 0;
        for (int k = 0; k < b.size(); k++) {
            sum += answer(now.routes, b.get(k)) == hop ? end(b, k) - b.get(k) : 0;
        }
        return sum;
    }

    long hardwareAddresses() {
        List<Long> b = boundaries(now.hardware);
        long sum = 0;
        for (int k = 0; k < b.size(); k++) {
            sum += answers(now.hardware, b.get(k)) ? end(b, k) - b.get(k) : 0;
        }
        return sum;
    }

    long nextOther(int address) {
        long a = unsigned(address);
        for (long b : boundaries(now.routes)) {
            if (b > a && answer(now.routes, b) != answer(now.routes, a)) {
                return b;
            }
        }
        return NOT_FOUND;
    }

    int runs() {
        int sum = 1;
        for (long b : boundaries(now.routes)) {
            if (b > 0 && answer(now.routes, b) != answer(now.routes, b - 1)) {
                sum++;
            }
        }
        return sum;
    }

    boolean isRedundant(int i) {
        if (i < 0 || i >= now.routes.size()) {
            return false;
        }
        TreeMap<Prefix, Integer> without = new TreeMap<>(now.routes);
        without.remove(at(now.routes, i));
        for (long b : boundaries(now.routes)) {
            if (answer(now.routes, b) != answer(without, b)) {
                return false;
            }
        }
        return true;
    }

    int redundant() {
        int sum = 0;
        for (int i = 0; i < now.routes.size(); i++) {
            sum += isRedundant(i) ? 1 : 0;
        }
        return sum;
    }

    int nesting() {
        int most = 0;
        for (Prefix p : now.routes.keySet()) {
            int around = 0;
            for (Prefix q : now.routes.keySet()) {
                around += p.isInside(q) ? 1 : 0;
            }
            most = Math.max(most, around);
        }
        return most;
    }

    int compressedWithout(int i) {
        if (i < 0) {
            return INVALID;
        }
        if (i >= now.routes.size()) {
            return NOT_FOUND;
        }
        TreeMap<Prefix, Integer> without = new TreeMap<>(now.routes);
        without.remove(at(now.routes, i));
        return compress(without).size();
    }

    int costliest() {
        int best = NOT_FOUND;
        int fewest = Integer.MAX_VALUE;
        for (int i = 0; i < now.routes.size(); i++) {
            int left = compressedWithout(i);
            if (left < fewest) {
                fewest = left;
                best = i;
            }
        }
        return best;
    }

    // ---- the rest ----

    long count(int what) {
        return what < 0 || what > 4 ? INVALID : now.counts[what];
    }

    int undo() {
        if (past.isEmpty()) {
            return INVALID;
        }
        now = past.removeLast();
        return past.size();
    }

    static String dotted(long address) {
        return (address >> 24) + "." + (address >> 16 & 255) + "." + (address >> 8 & 255) + "." + (address & 255);
    }

    String report(int kind) {
        StringBuilder text = new StringBuilder();
        if (kind == 4) {
            now.log.forEach((a, c) -> text.append(dotted(a)).append(' ').append(c).append('\n'));
            return text.toString();
        }
        List<TreeMap<Prefix, Integer>> sets =
                Arrays.asList(now.routes, entries(), kind == 2 ? targetTable() : null, now.hardware);
        sets.get(kind).forEach((p, hop) -> text.append(dotted(p.value())).append('/').append(p.length())
                .append(' ').append(hop == EXCEPTION ? "x" : "" + hop).append('\n'));
        return text.toString();
    }

    int reportLength(int kind) {
        return kind < 0 || kind > 4 ? INVALID : report(kind).length();
    }

    int reportByte(int kind, int i) {
        if (kind < 0 || kind > 4 || i < 0) {
            return INVALID;
        }
        String text = report(kind);
        return i < text.length() ? text.charAt(i) : NOT_FOUND;
    }
}
