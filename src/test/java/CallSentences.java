import java.util.LinkedHashMap;
import java.util.Map;
import java.util.function.ToLongFunction;

/** The sentences of section 8, on the constants, and of promises 47 to 50: counts, undo, reports. */
final class CallSentences {
    private static final int INVALID = ForwardingTable.INVALID;
    private static final int NOT_FOUND = ForwardingTable.NOT_FOUND;
    private static final int LEAST = Integer.MIN_VALUE;
    private static final int GREATEST = Integer.MAX_VALUE;
    private static final int TEN = Texts.ip(10, 0, 0, 0);

    private CallSentences() {
    }

    static void tests(Sentences s) {
        s.run(CallSentences::manyCalls);
        s.run(CallSentences::invalidArguments);
        s.run(CallSentences::operations);
        s.run(CallSentences::latestEight);
        s.run(CallSentences::constants);
        s.run(CallSentences::count);
        s.run(CallSentences::undo);
        s.run(CallSentences::reportLines);
        s.run(CallSentences::reportKinds);
        s.run(CallSentences::reportBytes);
    }

    private static void manyCalls(Sentences s) {
        s.says("What it is", "An object is used for at most 512 calls after it has been made; what later calls answer is free.");
        ForwardingTable x = new ForwardingTable();
        for (int i = 1; i <= 509; i++) {
            x.packet(i, 9999);
        }
        s.due("call no. 510, logged()", x.logged(), 40);
        s.due("call no. 511, log(39, 0)", x.log(39, 0), 509);
        s.due("call no. 512, count(1)", x.count(1), 509 * 9999);
    }

    /** Each call that takes an argument, with arguments that are too small and too large. */
    private static Map<String, ToLongFunction<ForwardingTable>> invalidCalls() {
        Map<String, ToLongFunction<ForwardingTable>> calls = new LinkedHashMap<>();
        for (int n : new int[] {-1, 2201, LEAST, GREATEST}) {
            calls.put("truncate(" + n + ")", t -> t.truncate(n));
        }
        for (int n : new int[] {-1, LEAST}) {
            calls.put("addRoute(0, " + n + ", 1)", t -> t.addRoute(0, n, 1));
            calls.put("addRoute(0, 0, " + n + ")", t -> t.addRoute(0, 0, n));
            calls.put("removeRoute(0, " + n + ")", t -> t.removeRoute(0, n));
            calls.put("packet(0, " + n + ")", t -> t.packet(0, n));
            calls.put("route(" + n + ", 0)", t -> t.route(n, 0));
            calls.put("route(0, " + n + ")", t -> t.route(0, n));
            calls.put("log(" + n + ", 0)", t -> t.log(n, 0));
            calls.put("log(0, " + n + ")", t -> t.log(0, n));
            calls.put("entry(" + n + ", 0)", t -> t.entry(n, 0));
            calls.put("entry(0, " + n + ")", t -> t.entry(0, n));
            calls.put("target(" + n + ", 0)", t -> t.target(n, 0));
            calls.put("target(0, " + n + ")", t -> t.target(0, n));
            calls.put("hardware(" + n + ", 0)", t -> t.hardware(n, 0));
            calls.put("hardware(0, " + n + ")", t -> t.hardware(0, n));
            calls.put("change(" + n + ", 0)", t -> t.change(n, 0));
            calls.put("change(0, " + n + ")", t -> t.change(0, n));
            calls.put("hopHits(" + n + ")", t -> t.hopHits(n));
            calls.put("lostHitsWith(" + n + ")", t -> t.lostHitsWith(n));
            calls.put("missedAfter(" + n + ")", t -> t.missedAfter(n));
            calls.put("sync(" + n + ")", t -> t.sync(n));
            calls.put("addresses(" + n + ")", t -> t.addresses(n));
            calls.put("compressedWithout(" + n + ")", t -> t.compressedWithout(n));
            calls.put("count(" + n + ")", t -> t.count(n));
            calls.put("reportLength(" + n + ")", t -> t.reportLength(n));
            calls.put("reportByte(" + n + ", 0)", t -> t.reportByte(n, 0));
            calls.put("reportByte(0, " + n + ")", t -> t.reportByte(0, n));
        }
        addTooLarge(calls);
        return calls;
    }

    private static void addTooLarge(Map<String, ToLongFunction<ForwardingTable>> calls) {
        calls.put("addRoute(0, 33, 1)", t -> t.addRoute(0, 33, 1));
        calls.put("addRoute(-1, 32, 16)", t -> t.addRoute(-1, 32, 16));
        calls.put("addRoute(-1, 0, 1)", t -> t.addRoute(-1, 0, 1));
        calls.put("removeRoute(0, 33)", t -> t.removeRoute(0, 33));
        calls.put("removeRoute(-1, 0)", t -> t.removeRoute(-1, 0));
        calls.put("packet(0, 0)", t -> t.packet(0, 0));
        calls.put("packet(0, 10000)", t -> t.packet(0, 10000));
        calls.put("hopHits(16)", t -> t.hopHits(16));
        calls.put("lostHitsWith(61)", t -> t.lostHitsWith(61));
        calls.put("missedAfter(201)", t -> t.missedAfter(201));
        calls.put("sync(0)", t -> t.sync(0));
        calls.put("sync(201)", t -> t.sync(201));
        calls.put("addresses(16)", t -> t.addresses(16));
        calls.put("count(5)", t -> t.count(5));
        calls.put("reportLength(5)", t -> t.reportLength(5));
        // Here another special result would be due, too: there is no such thing either.
        calls.put("route(9999, 5)", t -> t.route(9999, 5));
        calls.put("log(9999, 2)", t -> t.log(9999, 2));
        calls.put("entry(9999, 6)", t -> t.entry(9999, 6));
        calls.put("target(9999, 3)", t -> t.target(9999, 3));
        calls.put("hardware(9999, 3)", t -> t.hardware(9999, 3));
        calls.put("change(9999, 4)", t -> t.change(9999, 4));
        calls.put("reportByte(5, 9999)", t -> t.reportByte(5, 9999));
    }

    private static void invalidArguments(Sentences s) {
        s.says("section 8", "A call with an invalid argument returns INVALID (or false) and changes nothing; this is checked "
                + "before any other special result.");
        invalidCalls().forEach(s::invalid);
        for (int n : new int[] {0, 41, -1, LEAST, GREATEST}) {
            s.same("setCapacity(" + n + ") of a busy table", Texts::busy, t -> t.setCapacity(n) ? 1 : 0, 0);
            s.same("setCapacity(" + n + ") of a full table", Texts::full, t -> t.setCapacity(n) ? 1 : 0, 0);
        }
        for (int i : new int[] {-1, LEAST}) {
            s.same("isRedundant(" + i + ") of a busy table", Texts::busy, t -> t.isRedundant(i) ? 1 : 0, 0);
        }
        // A full table: the invalid hop counts before FULL, and before NOT_FOUND.
        s.same("addRoute no. 61 with the hop 16", Texts::full, t -> t.addRoute(-1, 32, 16), INVALID);
        s.same("addRoute of one that is there, with the hop 16", Texts::full, t -> t.addRoute(TEN, 32, 16), INVALID);
        s.same("sync(201) when nothing is to change", ForwardingTable::new, t -> t.sync(201), INVALID);
    }

    /** A table in which each operation would succeed. */
    private static ForwardingTable ready() {
        return Texts.loaded("capacity 2;route 10.0.0.0/8 hop 1;route 20.0.0.0/8 hop 2;seen 10.0.0.0 times 9;"
                + "seen 20.0.0.0 times 1;");
    }

    private static void operation(Sentences s, String what, ToLongFunction<ForwardingTable> call, int undos) {
        ForwardingTable x = ready();
        x.sync(1);
        call.applyAsLong(x);
        s.due("undo() behind " + what, x.undo(), undos);
    }

    private static void operations(Sentences s) {
        s.says("section 8", "Operations are the successful calls of addRoute(), removeRoute(), packet(), age(), sync(), clear() "
                + "and setCapacity().");
        operation(s, "addRoute", t -> t.addRoute(0, 0, 1), 1);
        operation(s, "addRoute with another hop", t -> t.addRoute(TEN, 8, 3), 1);
        operation(s, "removeRoute", t -> t.removeRoute(TEN, 8), 1);
        operation(s, "packet", t -> t.packet(0, 1), 1);
        operation(s, "age", ForwardingTable::age, 1);
        operation(s, "sync", t -> t.sync(1), 1);
        operation(s, "clear", ForwardingTable::clear, 1);
        operation(s, "setCapacity", t -> t.setCapacity(3) ? 1 : 0, 1);
        // These are none, or had no success.
        operation(s, "nothing", t -> 0, 0);
        operation(s, "addRoute of what is so", t -> t.addRoute(TEN, 8, 1), 0);
        operation(s, "addRoute with the hop 16", t -> t.addRoute(TEN, 8, 16), 0);
        operation(s, "removeRoute of none", t -> t.removeRoute(0, 0), 0);
        operation(s, "removeRoute that is invalid", t -> t.removeRoute(1, 0), 0);
        operation(s, "packet that is invalid", t -> t.packet(0, 0), 0);
        operation(s, "sync that is invalid", t -> t.sync(0), 0);
        operation(s, "setCapacity of what is so", t -> t.setCapacity(2) ? 1 : 0, 0);
        operation(s, "setCapacity that is invalid", t -> t.setCapacity(0) ? 1 : 0, 0);
        operation(s, "append", t -> t.append(0, 0, 0, 0, 0), 0);
        operation(s, "append and truncate", t -> t.append(0, 0, 0, 0, 0) + t.truncate(20), 0);
        operation(s, "load of an error", ForwardingTable::load, 0);
        operation(s, "questions", t -> Texts.state(t).length() + t.missedAfter(2) + t.costliest() + t.lostHitsWith(1), 0);
        ForwardingTable x = new ForwardingTable();
        x.age();
        x.clear();
        x.sync(1);
        s.due("undo() behind age, clear and sync without success", x.undo(), INVALID);
        ForwardingTable y = Texts.full();
        y.addRoute(-1, 32, 1);
        s.due("undo() behind addRoute no. 61", y.undo(), 7);
        s.due("hardwareSize(): the sync before it is undone", y.hardwareSize(), 1);
    }

    private static void restored(Sentences s, String what, ToLongFunction<ForwardingTable> call) {
        ForwardingTable x = ready();
        x.sync(1);
        call.applyAsLong(x);
        // What was worked out for this state must not be told behind undo().
        Texts.state(x);
        x.undo();
        ForwardingTable twin = ready();
        twin.sync(1);
        s.due("state when " + what + " is undone", Texts.state(x), Texts.state(twin));
    }

    private static void latestEight(Sentences s) {
        s.says("section 8", "The latest 8 of them can be undone; that restores everything but the tape and the error position.");
        ForwardingTable x = new ForwardingTable();
        for (int i = 0; i < 9; i++) {
            x.packet(i, 1);
        }
        for (int i = 7; i >= 0; i--) {
            s.due("undo()", x.undo(), i);
            s.due("logged()", x.logged(), i + 1);
        }
        s.due("undo() of a ninth", x.undo(), INVALID);
        s.due("logged()", x.logged(), 1);
        ForwardingTable y = new ForwardingTable();
        for (int i = 0; i < 30; i++) {
            y.packet(i, 1);
            s.due("undo() behind " + (i + 1), y.undo(), Math.min(i, 7));
            y.packet(i, 1);
        }
        restored(s, "addRoute", t -> t.addRoute(0, 0, 1));
        restored(s, "addRoute with another hop", t -> t.addRoute(TEN, 8, 3));
        restored(s, "removeRoute", t -> t.removeRoute(TEN, 8));
        restored(s, "packet", t -> t.packet(TEN, 9999));
        restored(s, "packet for another address", t -> t.packet(-1, 1));
        restored(s, "age", ForwardingTable::age);
        restored(s, "sync", t -> t.sync(9));
        restored(s, "clear", ForwardingTable::clear);
        restored(s, "setCapacity", t -> t.setCapacity(40) ? 1 : 0);
        ForwardingTable z = Texts.busy();
        z.undo();
        s.due("tapeLength() is not undone", z.tapeLength(), 12);
        s.due("errorPosition() is not undone", z.errorPosition(), 11);
        ForwardingTable w = new ForwardingTable();
        w.packet(0, 1);
        Texts.put(w, "capacity 3;");
        w.undo();
        s.due("load() of a tape that was filled behind the operation", w.load(), 0);
        s.due("capacity()", w.capacity(), 3);
    }

    private static void constants(Sentences s) {
        s.says("constants", "`INVALID = -1`: Result of a call with an invalid argument.");
        s.due("INVALID", ForwardingTable.INVALID, -1);
        s.due("packet(0, 0)", new ForwardingTable().packet(0, 0), -1);

        s.says("constants", "`NOT_FOUND = -2`: Result of a call that finds nothing.");
        s.due("NOT_FOUND", ForwardingTable.NOT_FOUND, -2);
        s.due("busiest()", new ForwardingTable().busiest(), -2);

        s.says("constants", "`FULL = -3`: A route is refused because there are 60.");
        s.due("FULL", ForwardingTable.FULL, -3);
        s.due("addRoute no. 61", Texts.full().addRoute(-1, 32, 1), -3);

        s.says("constants", "`EXCEPTION = 16`: The action of an exception.");
        s.due("EXCEPTION", ForwardingTable.EXCEPTION, 16);
        ForwardingTable x = ready();
        x.sync(2);
        x.addRoute(Texts.ip(10, 1, 0, 0), 16, 15);
        s.due("action of an exception", x.action(Texts.ip(10, 1, 0, 0)), 16);
    }

    private static void count(Sentences s) {
        s.says("promise 47", "`what`: 0 packets that the hardware answered, 1 packets that the software answered, 2 the churn, "
                + "3 how many routes came, went or got another hop, 4 how often the hardware was cleared while it was not "
                + "empty");
        ForwardingTable x = ready();
        x.packet(-1, 7);
        x.sync(2);
        x.packet(TEN, 9999);
        x.packet(TEN, 1);
        x.addRoute(Texts.ip(10, 1, 0, 0), 16, 2);
        x.addRoute(Texts.ip(10, 1, 0, 0), 16, 3);
        x.packet(Texts.ip(10, 1, 0, 0), 30);
        x.removeRoute(Texts.ip(10, 1, 0, 0), 16);
        x.addRoute(TEN, 8, 1);
        x.removeRoute(0, 0);
        x.clear();
        x.clear();
        long[] due = {10000, 37, 10, 3, 1};
        for (int what = 0; what < 5; what++) {
            s.due("count(" + what + ")", x.count(what), due[what]);
        }
        // Clearing an empty hardware does not count; each way of clearing does.
        ForwardingTable y = ready();
        y.setCapacity(1);
        s.due("count(4): empty, setCapacity", y.count(4), 0);
        y.setCapacity(2);
        y.sync(2);
        y.addRoute(Texts.ip(10, 1, 0, 0), 16, 2);
        y.setCapacity(1);
        s.due("count(4): three and room for two, setCapacity", y.count(4), 1);
        y.sync(1);
        y.addRoute(0, 0, 0);
        s.due("count(4): removed by a route, but not cleared", y.count(4), 1);

        s.says("promise 47", "Returns the count since the table began;");
        for (int what = 0; what < 5; what++) {
            s.due("count(" + what + ") of a new table", new ForwardingTable().count(what), 0);
        }
        Texts.load(x, "capacity 1;");
        for (int what = 0; what < 5; what++) {
            s.due("count(" + what + ") of a table that was loaded", x.count(what), 0);
        }
        ForwardingTable z = new ForwardingTable();
        for (int i = 0; i < 500; i++) {
            z.packet(0, 9999);
        }
        s.due("count(1) far above what the log tells", z.count(1), 500 * 9999);

        s.says("promise 47", "INVALID for any other what.");
        for (int what : new int[] {-1, 5, 6, LEAST, GREATEST}) {
            s.invalid("count(" + what + ")", t -> t.count(what));
        }
    }

    private static void undo(Sentences s) {
        s.says("promise 48", "Undoes the latest operation (section 8) that has not been undone.");
        ForwardingTable x = new ForwardingTable();
        x.packet(1, 1);
        x.packet(2, 1);
        x.packet(3, 1);
        x.undo();
        s.due("logged(): the latest is undone", x.logged(), 2);
        x.packet(4, 1);
        s.due("log(2, 0)", x.log(2, 0), 4);
        x.undo();
        x.undo();
        s.due("logged(): then the one that was not undone before", x.logged(), 1);
        s.due("log(0, 0)", x.log(0, 0), 1);
        x.undo();
        s.due("logged() of none", x.logged(), 0);
        // Many done and undone by turns: the eight are a ring.
        ForwardingTable y = new ForwardingTable();
        for (int i = 0; i < 40; i++) {
            y.packet(i, 1);
            y.packet(100 + i, 1);
            y.undo();
            s.due("logged() by turns", y.logged(), i + 1);
        }
        for (int i = 0; i < 7; i++) {
            y.undo();
            s.due("logged() going back", y.logged(), 39 - i);
        }

        s.says("promise 48", "Returns the number of operations that can still be undone;");
        ForwardingTable z = new ForwardingTable();
        for (int i = 0; i < 8; i++) {
            z.packet(i, 1);
        }
        for (int i = 7; i >= 0; i--) {
            s.due("undo() of eight", z.undo(), i);
        }
        z.packet(0, 1);
        s.due("undo() of one", z.undo(), 0);
        for (int i = 0; i < 20; i++) {
            z.packet(i, 1);
        }
        s.due("undo() of twenty", z.undo(), 7);

        s.says("promise 48", "INVALID if there is none.");
        s.same("undo() of a new table", ForwardingTable::new, ForwardingTable::undo, INVALID);
        s.same("undo() of a table that was loaded", CallSentences::ready, ForwardingTable::undo, INVALID);
        ForwardingTable w = new ForwardingTable();
        w.packet(0, 1);
        w.undo();
        s.due("undo() of one that was undone", w.undo(), INVALID);
        s.due("undo() once more", w.undo(), INVALID);
    }

    private static void reportLines(Sentences s) {
        s.says("promise 49", "Returns the length of a report.");
        s.due("reportLength(0)", Texts.loaded("capacity 8;route 255.255.255.255/32 hop 15;").reportLength(0), 22);
        s.due("reportLength(0)", Texts.loaded("capacity 8;route 0.0.0.0/0 hop 0;").reportLength(0), 12);

        s.says("promise 49", "The reports of the kinds 0 to 3 have a line for each prefix, in order: the four bytes of its value "
                + "with a dot between two, a slash, its length, a space, its hop or action (x for EXCEPTION), all numbers in "
                + "decimal, and a line feed (byte 10).");
        ForwardingTable x = Texts.loaded("capacity 2;route 255.255.255.255/32 hop 10;route 0.0.0.0/0 hop 9;"
                + "route 100.99.10.9/32 hop 15;route 1.0.0.0/10 hop 0;seen 0.0.0.0 times 1;seen 100.99.10.9 times 2;"
                + "seen 1.0.0.0 times 2;");
        s.due("routes", Texts.report(x, 0), "0.0.0.0/0 9\n1.0.0.0/10 0\n100.99.10.9/32 15\n255.255.255.255/32 10\n");
        s.due("entries", Texts.report(x, 1), "0.0.0.0/0 9\n1.0.0.0/10 0\n100.99.10.9/32 15\n255.255.255.255/32 10\n");
        s.due("target", Texts.report(x, 2), "1.0.0.0/10 0\n100.99.10.9/32 15\n");
        s.due("hardware, empty", Texts.report(x, 3), "");
        x.sync(2);
        x.addRoute(Texts.ip(1, 1, 0, 0), 16, 9);
        s.due("hardware", Texts.report(x, 3), "1.0.0.0/10 0\n1.1.0.0/16 x\n100.99.10.9/32 15\n");
        s.due("routes of none", Texts.report(new ForwardingTable(), 0), "");

        s.says("promise 49", "The report of kind 4 has a line for each address of the log: its four bytes with a dot between "
                + "two, a space, its count, and a line feed.");
        ForwardingTable y = Texts.loaded("capacity 2;seen 255.255.255.255 times 999;seen 0.0.0.0 times 1;"
                + "seen 100.99.10.9 times 10;");
        s.due("log", Texts.report(y, 4), "255.255.255.255 999\n0.0.0.0 1\n100.99.10.9 10\n");
        for (int i = 0; i < 101; i++) {
            y.packet(-1, 9999);
        }
        s.due("reportLength(4) with 999999", y.reportLength(4), 23 + 10 + 15);
        s.due("reportByte(4, 21) with 999999", y.reportByte(4, 21), '9');
        s.due("reportByte(4, 22) with 999999", y.reportByte(4, 22), '\n');
        s.due("log of none", Texts.report(new ForwardingTable(), 4), "");
    }

    private static void reportKinds(Sentences s) {
        ForwardingTable x = ready();
        x.sync(1);
        s.says("promise 49", "`kind`: 0 the routes, 1 the compressed table, 2 the target, 3 the hardware, 4 the log");
        x.addRoute(TEN, 9, 1);
        String[] reports = {"10.0.0.0/8 1\n10.0.0.0/9 1\n20.0.0.0/8 2\n", "10.0.0.0/8 1\n20.0.0.0/8 2\n",
            "10.0.0.0/8 1\n20.0.0.0/8 2\n", "10.0.0.0/8 1\n10.0.0.0/9 x\n", "10.0.0.0 9\n20.0.0.0 1\n"};
        for (int kind = 0; kind < 5; kind++) {
            s.due("report " + kind, Texts.report(x, kind), reports[kind]);
        }
        // One kind asked for behind another, forwards and backwards.
        for (int i = 0; i < 10; i++) {
            int kind = i < 5 ? i : 9 - i;
            s.due("reportLength(" + kind + ")", x.reportLength(kind), reports[kind].length());
        }

        s.says("promise 49", "Returns the number of bytes;");
        for (int kind = 0; kind < 5; kind++) {
            s.due("reportLength(" + kind + ") of a new table", new ForwardingTable().reportLength(kind), 0);
        }
        s.due("reportLength(0) of sixty", Texts.full().reportLength(0), 10 * 13 + 50 * 14);
        s.due("reportLength(4) of forty", Texts.full().reportLength(4), 10 * 10 + 30 * 11);
        // The longest: forty prefixes of the target with their hops, and forty exceptions.
        ForwardingTable y = new ForwardingTable();
        y.setCapacity(40);
        y.addRoute(-256, 24, 1);
        y.packet(-256, 5);
        for (int i = 1; i < 40; i++) {
            y.addRoute(-156 + 2 * i, 32, 15);
            y.packet(-156 + 2 * i, 5);
        }
        y.sync(200);
        for (int i = 0; i < 40; i++) {
            y.addRoute(-155 + 2 * i, 32, 14);
            y.removeRoute(-155 + 2 * i, 32);
        }
        s.due("hardwareSize()", y.hardwareSize(), 80);
        s.due("reportLength(3) of eighty", y.reportLength(3), 19 + 39 * 22 + 40 * 21);
        s.due("reportByte(3), the last", y.reportByte(3, 19 + 39 * 22 + 40 * 21 - 1), '\n');

        s.says("promise 49", "INVALID for an invalid argument.");
        for (int kind : new int[] {-1, 5, LEAST, GREATEST}) {
            s.invalid("reportLength(" + kind + ")", t -> t.reportLength(kind));
        }
    }

    private static void reportBytes(Sentences s) {
        ForwardingTable x = ready();
        s.says("promise 50", "`kind`: the kind of the report, 0 to 4");
        s.due("reportByte(0, 0)", x.reportByte(0, 0), '1');
        s.due("reportByte(4, 18)", x.reportByte(4, 18), '0');
        s.due("reportByte(3, 0) of an empty hardware", x.reportByte(3, 0), NOT_FOUND);

        s.says("promise 50", "`i`: position in it, from 0");
        String routes = "10.0.0.0/8 1\n20.0.0.0/8 2\n";
        s.due("reportByte(0, 0), the first", x.reportByte(0, 0), routes.charAt(0));
        s.due("reportByte(0, 25), the last", x.reportByte(0, 25), '\n');

        s.says("promise 50", "Returns the byte at that position;");
        for (int i = 0; i < routes.length(); i++) {
            s.due("reportByte(0, " + i + ")", x.reportByte(0, i), routes.charAt(i));
        }

        s.says("promise 50", "INVALID for an invalid argument or a negative i;");
        s.invalid("reportByte(-1, 0)", t -> t.reportByte(-1, 0));
        s.invalid("reportByte(5, 0)", t -> t.reportByte(5, 0));
        s.invalid("reportByte(5, greatest int)", t -> t.reportByte(5, GREATEST));
        s.invalid("reportByte(least int, 0)", t -> t.reportByte(LEAST, 0));
        for (int kind = 0; kind < 5; kind++) {
            int k = kind;
            s.invalid("reportByte(" + kind + ", -1)", t -> t.reportByte(k, -1));
            s.invalid("reportByte(" + kind + ", least int)", t -> t.reportByte(k, LEAST));
        }

        s.says("promise 50", "NOT_FOUND if the report is not so long.");
        for (int kind = 0; kind < 5; kind++) {
            s.due("reportByte(" + kind + ", 0) of a new table", new ForwardingTable().reportByte(kind, 0), NOT_FOUND);
            s.due("reportByte at the end of " + kind, x.reportByte(kind, x.reportLength(kind)), NOT_FOUND);
            s.due("reportByte(" + kind + ", greatest int)", x.reportByte(kind, GREATEST), NOT_FOUND);
        }
        // A report that was longer before ends earlier now.
        s.due("reportLength(0)", x.reportLength(0), routes.length());
        x.removeRoute(TEN, 8);
        s.due("reportByte(0, 12)", x.reportByte(0, 12), '\n');
        s.due("reportByte(0, 13)", x.reportByte(0, 13), NOT_FOUND);
    }
}
