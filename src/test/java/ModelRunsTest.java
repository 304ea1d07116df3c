import java.util.ArrayList;
import java.util.List;
import java.util.Random;

/** Runs of calls with all methods, ordinary and wrong arguments, on the class and on the model. */
public final class ModelRunsTest {
    private static final Check CHECK = new Check("ModelRunsTest");

    private final Random random;
    private final ForwardingTable x = new ForwardingTable();
    private final Model m = new Model();
    private final String name;
    private int calls = 0;

    // What the routes of this run look like: all differ in a few bits only, so that they nest,
    // stand beside each other and leave ties.
    private final int hops;
    private final int firstBit;
    private final int bits;
    private final long base;
    private final int biggest;
    private final int largestTable;

    private ModelRunsTest(long seed) {
        random = new Random(seed);
        name = "run " + seed;
        hops = new int[] {2, 2, 3, 4, 16}[random.nextInt(5)];
        bits = 1 + random.nextInt(random.nextBoolean() ? 5 : 32);
        firstBit = random.nextInt(33 - bits);
        base = random.nextInt(3) == 0 ? 0 : random.nextInt() & 0xFFFFFFFFL;
        biggest = new int[] {1, 2, 5, 50, 9999}[random.nextInt(5)];
        largestTable = new int[] {5, 12, 25, 60}[random.nextInt(4)];
    }

    public static void main(String[] args) {
        long first = args.length > 0 ? Long.parseLong(args[0]) : 1;
        long last = args.length > 1 ? Long.parseLong(args[1]) : 400;
        for (long seed = first; seed <= last && CHECK.wrong() < 20; seed++) {
            new ModelRunsTest(seed).run();
        }
        CHECK.end();
    }

    private void run() {
        int wrongBefore = CHECK.wrong();
        if (random.nextInt(8) > 0) {
            loadText(text(random.nextInt(largestTable + 1), random.nextInt(41)));
        }
        while (calls < 500 && CHECK.wrong() == wrongBefore) {
            if (random.nextInt(3) == 0) {
                operate();
            } else if (random.nextInt(2) == 0) {
                ask();
            } else {
                askMore();
            }
        }
    }

    private void due(String call, long got, long want) {
        calls++;
        CHECK.due(name + ", call " + calls + ", " + call, got, want);
    }

    // ---- arguments ----

    private Model.Prefix prefix() {
        int length = firstBit + random.nextInt(bits + 1);
        if (random.nextInt(20) == 0) {
            length = random.nextInt(33);
        }
        long mask = (Model.ALL >> firstBit) - (Model.ALL >> (firstBit + bits));
        long value = base & ~mask | random.nextInt() & mask;
        value &= 0xFFFFFFFFL;
        return new Model.Prefix(value - value % (1L << (32 - length)), length);
    }

    private int hop() {
        return random.nextInt(30) == 0 ? new int[] {-1, 16, 15, 0}[random.nextInt(4)] : random.nextInt(hops);
    }

    private static Model.Prefix any(List<Model.Prefix> list, Random random) {
        return list.get(random.nextInt(list.size()));
    }

    private int address() {
        int kind = random.nextInt(10);
        List<Model.Prefix> known = new ArrayList<>(m.now.routes.keySet());
        known.addAll(m.now.hardware.keySet());
        if (kind < 6 && !known.isEmpty()) {
            Model.Prefix p = any(known, random);
            long[] near = {p.value(), p.value() + p.size() - 1, p.value() + p.size(), p.value() - 1,
                p.value() + p.size() / 2};
            return (int) near[random.nextInt(near.length)];
        }
        if (kind < 8 && !m.now.log.isEmpty()) {
            return (int) (long) new ArrayList<>(m.now.log.keySet()).get(random.nextInt(m.now.log.size()));
        }
        return kind < 9 ? (int) prefix().value() : new int[] {0, -1, Integer.MIN_VALUE,
            Integer.MAX_VALUE, random.nextInt()}[random.nextInt(5)];
    }

    private int index(int size) {
        int odd = random.nextInt(25);
        if (odd < 4) {
            return new int[] {-1, size, Integer.MAX_VALUE, Integer.MIN_VALUE}[odd];
        }
        return random.nextInt(size + 1);
    }

    private int what(int most) {
        return random.nextInt(25) == 0 ? (random.nextBoolean() ? -1 : most + 1) : random.nextInt(most + 1);
    }

    // ---- texts ----

    private String text(int routes, int seen) {
        StringBuilder text = new StringBuilder();
        text.append("capacity").append(space()).append(1 + random.nextInt(random.nextInt(4) == 0 ? 40 : 9)).append(";");
        java.util.Set<Model.Prefix> used = new java.util.HashSet<>();
        for (int i = 0; i < routes; i++) {
            Model.Prefix p = prefix();
            if (used.add(p) || random.nextInt(200) == 0) {
                text.append("route").append(space()).append(Model.dotted(p.value())).append("/").append(p.length())
                        .append("hop").append(random.nextInt(hops)).append(";");
            }
        }
        java.util.Set<Integer> met = new java.util.HashSet<>();
        for (int i = 0; i < seen; i++) {
            int a = random.nextBoolean() ? (int) prefix().value() : address();
            if (met.add(a) || random.nextInt(200) == 0) {
                text.append("seen").append(space()).append(Model.dotted(Model.unsigned(a))).append("times")
                        .append(1 + random.nextInt(Math.min(biggest, 999))).append(";").append(space());
            }
        }
        return text.toString();
    }

    private String space() {
        return new String[] {"", "", "", " ", "\n", " \n"}[random.nextInt(6)];
    }

    private String broken(String text) {
        StringBuilder b = new StringBuilder(text);
        for (int n = random.nextInt(3); n > 0; n--) {
            int at = random.nextInt(b.length() + 1);
            String piece = new String[] {"", ";", ".", "/", "route", "seen", "hop", "times", "capacity", "0", "9", "25",
                "x", "R", " ", "\n", "\t", "\u00e9", "1000", "0001", "seen1.2.3.4times1;"}[random.nextInt(21)];
            b.replace(at, Math.min(b.length(), at + random.nextInt(4)), piece);
        }
        return random.nextInt(6) == 0 ? b.substring(0, random.nextInt(b.length() + 1)) : b.toString();
    }

    private void loadText(String text) {
        int padding = (20 - text.length() % 20) % 20;
        String padded = text + " ".repeat(padding);
        for (int i = 0; i < padded.length(); i += 20) {
            append(Texts.word(padded, i), Texts.word(padded, i + 4), Texts.word(padded, i + 8),
                    Texts.word(padded, i + 12), Texts.word(padded, i + 16));
        }
        due("truncate", x.truncate(padding), m.truncate(padding));
        due("load of " + text, x.load(), m.load());
        due("errorPosition of " + text, x.errorPosition(), m.errorPosition());
        calls = 0;
    }

    private void append(int a, int b, int c, int d, int e) {
        due("append", x.append(a, b, c, d, e), m.append(a, b, c, d, e));
    }

    // ---- calls ----

    private void operate() {
        int a = address();
        Model.Prefix p = m.now.routes.isEmpty() || random.nextInt(3) > 0 ? prefix() : any(new ArrayList<>(m.now.routes.keySet()), random);
        int value = random.nextInt(40) == 0 ? random.nextInt() : (int) p.value();
        int length = random.nextInt(40) == 0 ? random.nextInt(40) - 3 : p.length();
        int n = random.nextInt(30) == 0 ? new int[] {0, -1, 10000, 9999}[random.nextInt(4)] : 1 + random.nextInt(biggest);
        int limit = random.nextInt(20) == 0 ? new int[] {0, -1, 201, 200}[random.nextInt(4)] : 1 + random.nextInt(random.nextBoolean() ? 3 : 60);
        int hop = hop();
        switch (random.nextInt(18)) {
            case 0, 1, 2 -> {
                if (m.now.routes.size() < largestTable || largestTable == 60 || random.nextInt(4) == 0) {
                    due("addRoute(" + value + ", " + length + ", " + hop + ")", x.addRoute(value, length, hop), m.addRoute(value, length, hop));
                }
            }
            case 3, 4 -> due("removeRoute(" + value + ", " + length + ")", x.removeRoute(value, length), m.removeRoute(value, length));
            case 5, 6, 7 -> due("packet(" + a + ", " + n + ")", x.packet(a, n), m.packet(a, n));
            case 8 -> {
                if (random.nextInt(3) == 0) {
                    due("age()", x.age(), m.age());
                }
            }
            case 9, 10, 11, 12 -> due("sync(" + limit + ")", x.sync(limit), m.sync(limit));
            case 13 -> {
                if (random.nextInt(4) == 0) {
                    due("clear()", x.clear(), m.clear());
                }
            }
            case 14 -> {
                int c = random.nextInt(8) == 0 ? random.nextInt(46) - 2 : 1 + random.nextInt(12);
                due("setCapacity(" + c + ")", x.setCapacity(c) ? 1 : 0, m.setCapacity(c) ? 1 : 0);
            }
            case 15, 16 -> undoSome();
            default -> tapeCalls();
        }
    }

    private void undoSome() {
        int times = random.nextInt(10) == 0 ? 10 : 1 + random.nextInt(2);
        for (int i = 0; i < times; i++) {
            due("undo()", x.undo(), m.undo());
        }
    }

    private void tapeCalls() {
        int n = random.nextInt(5) == 0 ? random.nextInt(2300) - 20 : random.nextInt(30);
        switch (random.nextInt(6)) {
            case 0 -> append(random.nextInt(), random.nextInt(), 0x20202020, random.nextInt(), 0x0a0a3131);
            case 1 -> due("truncate(" + n + ")", x.truncate(n), m.truncate(n));
            case 2 -> {
                due("load()", x.load(), m.load());
                due("errorPosition()", x.errorPosition(), m.errorPosition());
            }
            case 3 -> {
                if (m.tape.length() == 0 && random.nextBoolean()) {
                    int before = calls;
                    loadText(broken(text(random.nextInt(12), random.nextInt(8))));
                    calls = before + 20;
                }
            }
            default -> due("tapeLength()", x.tapeLength(), m.tapeLength());
        }
    }

    private void ask() {
        int a = address();
        int hop = hop();
        switch (random.nextInt(22)) {
            case 0 -> due("capacity()", x.capacity(), m.capacity());
            case 1 -> due("routes()", x.routes(), m.routes());
            case 2, 3 -> {
                int i = index(m.now.routes.size());
                int w = what(4);
                due("route(" + i + ", " + w + ")", x.route(i, w), m.route(i, w));
            }
            case 4 -> due("answer(" + a + ")", x.answer(a), m.answer(a));
            case 5 -> due("matching(" + a + ")", x.matching(a), m.matching(a));
            case 6 -> due("logged()", x.logged(), m.logged());
            case 7 -> {
                int i = index(m.now.log.size());
                int w = what(1);
                due("log(" + i + ", " + w + ")", x.log(i, w), m.log(i, w));
            }
            case 8 -> due("compressed()", x.compressed(), m.compressed());
            case 9, 10, 11 -> {
                int i = index(m.entries().size());
                int w = what(5);
                due("entry(" + i + ", " + w + ")", x.entry(i, w), m.entry(i, w));
            }
            case 12 -> due("hopHits(" + hop + ")", x.hopHits(hop), m.hopHits(hop));
            case 13 -> due("busiest()", x.busiest(), m.busiest());
            case 14 -> due("coldest()", x.coldest(), m.coldest());
            case 15 -> due("addresses(" + hop + ")", x.addresses(hop), m.addresses(hop));
            case 16 -> due("nextOther(" + a + ")", x.nextOther(a), m.nextOther(a));
            case 17 -> due("runs()", x.runs(), m.runs());
            case 18 -> {
                int i = index(m.now.routes.size());
                due("isRedundant(" + i + ")", x.isRedundant(i) ? 1 : 0, m.isRedundant(i) ? 1 : 0);
            }
            case 19 -> due("redundant()", x.redundant(), m.redundant());
            case 20 -> due("nesting()", x.nesting(), m.nesting());
            default -> {
                int i = index(m.now.routes.size());
                due("compressedWithout(" + i + ")", x.compressedWithout(i), m.compressedWithout(i));
                if (random.nextInt(m.now.routes.size() + 1) < 6) {
                    due("costliest()", x.costliest(), m.costliest());
                }
            }
        }
    }

    private void askMore() {
        int a = address();
        switch (random.nextInt(20)) {
            case 0 -> due("exceptions()", x.exceptions(), m.exceptions());
            case 1 -> due("targetSize()", x.targetSize(), m.targetSize());
            case 2, 3 -> {
                int i = index(m.targetSize());
                int w = what(2);
                due("target(" + i + ", " + w + ")", x.target(i, w), m.target(i, w));
            }
            case 4 -> due("lostHits()", x.lostHits(), m.lostHits());
            case 5 -> {
                int c = random.nextInt(65) - 2;
                due("lostHitsWith(" + c + ")", x.lostHitsWith(c), m.lostHitsWith(c));
            }
            case 6 -> due("enough()", x.enough(), m.enough());
            case 7 -> due("hardwareSize()", x.hardwareSize(), m.hardwareSize());
            case 8 -> {
                int i = index(m.now.hardware.size());
                int w = what(2);
                due("hardware(" + i + ", " + w + ")", x.hardware(i, w), m.hardware(i, w));
            }
            case 9 -> due("action(" + a + ")", x.action(a), m.action(a));
            case 10 -> due("changes()", x.changes(), m.changes());
            case 11, 12 -> {
                int i = index(m.changes());
                int w = what(3);
                due("change(" + i + ", " + w + ")", x.change(i, w), m.change(i, w));
            }
            case 13 -> due("missed()", x.missed(), m.missed());
            case 14 -> {
                int l = random.nextInt(20) == 0 ? new int[] {-1, 201, 200, 0}[random.nextInt(4)] : random.nextInt(50);
                due("missedAfter(" + l + ")", x.missedAfter(l), m.missedAfter(l));
            }
            case 15 -> due("hardwareAddresses()", x.hardwareAddresses(), m.hardwareAddresses());
            case 16 -> {
                int w = what(4);
                due("count(" + w + ")", x.count(w), m.count(w));
            }
            case 17 -> {
                int k = what(4);
                due("reportLength(" + k + ")", x.reportLength(k), m.reportLength(k));
            }
            case 18 -> {
                int k = what(4);
                int i = index(Math.max(0, m.reportLength(k)));
                due("reportByte(" + k + ", " + i + ")", x.reportByte(k, i), m.reportByte(k, i));
            }
            default -> due("tapeLength()", x.tapeLength(), m.tapeLength());
        }
    }
}
