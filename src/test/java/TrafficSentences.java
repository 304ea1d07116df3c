/** The sentences of section 4 and of promises 14 to 17, 20 and 34: packets and the log. */
final class TrafficSentences {
    private static final int INVALID = ForwardingTable.INVALID;
    private static final int NOT_FOUND = ForwardingTable.NOT_FOUND;
    private static final int LEAST = Integer.MIN_VALUE;
    private static final int GREATEST = Integer.MAX_VALUE;

    private TrafficSentences() {
    }

    static void tests(Sentences s) {
        s.run(TrafficSentences::theLog);
        s.run(TrafficSentences::fullLog);
        s.run(TrafficSentences::hits);
        s.run(TrafficSentences::packet);
        s.run(TrafficSentences::age);
        s.run(TrafficSentences::log);
        s.run(TrafficSentences::hopHits);
        s.run(TrafficSentences::missed);
    }

    /** Addresses 0 to 39 with these counts, of which the last one goes on to the end. */
    private static ForwardingTable logged(int... counts) {
        ForwardingTable x = new ForwardingTable();
        for (int i = 0; i < 40; i++) {
            x.packet(i, counts[Math.min(i, counts.length - 1)]);
        }
        return x;
    }

    private static void theLog(Sentences s) {
        s.says("section 4", "The log contains addresses with counts, at most 40, in the order in which they came.");
        ForwardingTable x = new ForwardingTable();
        x.packet(-1, 1);
        x.packet(0, 2);
        x.packet(LEAST, 3);
        x.packet(0, 2);
        s.due("log", Texts.report(x, 4), "255.255.255.255 1\n0.0.0.0 4\n128.0.0.0 3\n");
        ForwardingTable y = logged(2);
        s.due("logged() at the most", y.logged(), 40);
        s.due("log(39, 0), the last that came", y.log(39, 0), 39);
        for (int i = 40; i < 90; i++) {
            y.packet(i, 3);
            s.due("logged() with one more", y.logged(), 40);
        }
        s.due("log(40, 0)", y.log(40, 0), NOT_FOUND);

        s.says("section 4", "When packets for an address come, its count increases by their number (to at most 999999); "
                + "an address that is not in the log comes in at its end.");
        ForwardingTable z = new ForwardingTable();
        for (int i = 1; i <= 100; i++) {
            z.packet(7, 9999);
        }
        s.due("log(0, 1)", z.log(0, 1), 999900);
        z.packet(7, 98);
        s.due("log(0, 1), one below the most", z.log(0, 1), 999998);
        z.packet(7, 1);
        s.due("log(0, 1), at the most", z.log(0, 1), 999999);
        z.packet(7, 1);
        s.due("log(0, 1), one more", z.log(0, 1), 999999);
        z.packet(7, 9999);
        s.due("log(0, 1), many more", z.log(0, 1), 999999);
        s.due("logged()", z.logged(), 1);
        z.packet(6, 1);
        s.due("log(1, 0), at the end", z.log(1, 0), 6);
        s.due("log(1, 1)", z.log(1, 1), 1);
        s.due("log(0, 1) of the other", z.log(0, 1), 999999);
    }

    private static void fullLog(Sentences s) {
        s.says("section 4", "If the log is full then, first the address with the smallest count is dropped, among several the "
                + "one that came first.");
        ForwardingTable x = logged(2);
        x.packet(99, 1);
        s.due("log(0, 0): of equals the first is dropped", x.log(0, 0), 1);
        s.due("log(39, 0): the new one is at the end", x.log(39, 0), 99);
        s.due("log(39, 1): though its count is smaller", x.log(39, 1), 1);
        x.packet(98, 1);
        s.due("log(39, 0): the last is dropped", x.log(39, 0), 98);
        s.due("log(38, 0)", x.log(38, 0), 39);
        s.due("log(0, 0)", x.log(0, 0), 1);
        ForwardingTable y = logged(9, 8, 7, 7, 8);
        y.packet(99, 9999);
        s.due("log(2, 0): the smallest is dropped", y.log(2, 0), 3);
        s.due("log(2, 1): the counts go with their addresses", y.log(2, 1), 7);
        s.due("log(3, 1)", y.log(3, 1), 8);
        y.packet(98, 1);
        s.due("log(2, 0): the next smallest is dropped", y.log(2, 0), 4);
        ForwardingTable second = logged(9, 1, 9);
        second.packet(99, 9);
        s.due("log(0, 0): the second is dropped, not the first", second.log(0, 0), 0);
        s.due("log(1, 0)", second.log(1, 0), 2);
        // One that is in the log drops none, though the log is full.
        ForwardingTable z = logged(1);
        z.packet(39, 1);
        s.due("log(0, 0) behind a known address", z.log(0, 0), 0);
        s.due("logged()", z.logged(), 40);
        s.due("log(39, 1)", z.log(39, 1), 2);
        // One that was dropped comes in again at the end, with a new count.
        z.packet(50, 5);
        z.packet(0, 1);
        s.due("log(39, 0) of one that comes again", z.log(39, 0), 0);
        s.due("log(39, 1) of one that comes again", z.log(39, 1), 1);
        // Thirty-nine are not full.
        ForwardingTable w = new ForwardingTable();
        for (int i = 0; i < 39; i++) {
            w.packet(i, 1);
        }
        w.packet(39, 1);
        s.due("log(0, 0) behind no. 40", w.log(0, 0), 0);
    }

    private static void hits(Sentences s) {
        s.says("section 4", "The hits of an entry of the compressed table are the sum of the counts of the addresses in the "
                + "log for which it is the longest entry that contains them.");
        ForwardingTable x = Texts.loaded("capacity 8;route 10.0.0.0/8 hop 1;route 10.1.0.0/16 hop 2;"
                + "seen 9.255.255.255 times 999;seen 10.0.0.0 times 1;seen 10.0.255.255 times 2;seen 10.1.0.0 times 4;"
                + "seen 10.1.255.255 times 8;seen 10.2.0.0 times 16;seen 10.255.255.255 times 32;seen 11.0.0.0 times 999;");
        s.due("entry(0, 4)", x.entry(0, 4), 51);
        s.due("entry(1, 4)", x.entry(1, 4), 12);
        s.due("entry(0, 4) without a log", Texts.loaded("capacity 8;route 10.0.0.0/8 hop 1;").entry(0, 4), 0);
        // An address that is dropped counts no more.
        ForwardingTable y = logged(1);
        y.addRoute(0, 32, 1);
        s.due("entry(0, 4) of 0", y.entry(0, 4), 1);
        y.packet(50, 1);
        s.due("entry(0, 4) without 0", y.entry(0, 4), 0);
    }

    private static ForwardingTable synced() {
        ForwardingTable x = Texts.loaded("capacity 3;route 10.0.0.0/8 hop 0;route 0.0.0.0/0 hop 3;route 10.1.0.0/16 hop 2;"
                + "seen 10.0.0.1 times 5;seen 1.0.0.0 times 5;seen 10.1.0.0 times 5;");
        x.sync(3);
        x.addRoute(Texts.ip(10, 1, 0, 0), 16, 7);
        return x;
    }

    private static void packet(Sentences s) {
        s.says("promise 14", "Packets for an address come: they are counted in the log (section 4), and as answered by the "
                + "hardware or by the software.");
        ForwardingTable x = synced();
        x.packet(Texts.ip(10, 0, 0, 0), 9999);
        x.packet(Texts.ip(10, 1, 0, 0), 1);
        s.due("count(0)", x.count(0), 9999);
        s.due("count(1)", x.count(1), 1);
        s.due("log(3, 1)", x.log(3, 1), 9999);
        s.due("log(2, 1)", x.log(2, 1), 6);
        ForwardingTable y = new ForwardingTable();
        for (int i = 0; i < 102; i++) {
            y.packet(7, 9999);
        }
        s.due("count(1) goes on where the log is at its most", y.count(1), 102 * 9999);
        s.due("log(0, 1)", y.log(0, 1), 999999);

        s.says("promise 14", "`address`: an address");
        for (int address : new int[] {0, 1, GREATEST, LEAST, -1}) {
            ForwardingTable z = new ForwardingTable();
            s.due("packet(" + address + ", 1)", z.packet(address, 1), 0);
            s.due("log(0, 0)", z.log(0, 0), Integer.toUnsignedLong(address));
        }

        s.says("promise 14", "`n`: their number, 1 to 9999");
        ForwardingTable w = new ForwardingTable();
        s.due("packet(5, 1)", w.packet(5, 1), 0);
        s.due("packet(6, 9999)", w.packet(6, 9999), 0);
        s.due("log(0, 1)", w.log(0, 1), 1);
        s.due("log(1, 1)", w.log(1, 1), 9999);

        s.says("promise 14", "Returns 1 if the hardware answers, 0 if the software does;");
        s.due("packet for no prefix of the hardware", new ForwardingTable().packet(0, 1), 0);
        s.due("packet for an exception", synced().packet(Texts.ip(10, 1, 255, 255), 1), 0);
        s.due("packet for the hop 0", synced().packet(Texts.ip(10, 2, 0, 0), 1), 1);
        s.due("packet for the hop 3", synced().packet(-1, 1), 1);
        ForwardingTable v = synced();
        v.clear();
        s.due("packet with a hardware that was cleared", v.packet(-1, 1), 0);

        s.says("promise 14", "INVALID if n is out of range.");
        for (int n : new int[] {0, 10000, -1, -9999, LEAST, GREATEST}) {
            s.invalid("packet(0, " + n + ")", t -> t.packet(0, n));
        }
        s.invalid("packet(10.0.0.0, 0), which is known", t -> t.packet(Texts.ip(10, 0, 0, 0), 0));
    }

    private static void age(Sentences s) {
        s.says("promise 15", "Halves all counts of the log, rounded down; addresses whose count becomes 0 are dropped.");
        ForwardingTable x = Texts.loaded("capacity 8;seen 0.0.0.1 times 1;seen 0.0.0.2 times 2;seen 0.0.0.3 times 3;"
                + "seen 0.0.0.4 times 1;seen 0.0.0.5 times 999;");
        x.age();
        s.due("log", Texts.report(x, 4), "0.0.0.2 1\n0.0.0.3 1\n0.0.0.5 499\n");
        x.age();
        s.due("log", Texts.report(x, 4), "0.0.0.5 249\n");
        ForwardingTable y = logged(1);
        y.age();
        s.due("logged() of forty with 1", y.logged(), 0);
        ForwardingTable z = new ForwardingTable();
        for (int i = 0; i < 102; i++) {
            z.packet(7, 9999);
        }
        z.age();
        s.due("log(0, 1) of 999999", z.log(0, 1), 499999);
        s.due("count(1) stays", z.count(1), 102 * 9999);

        s.says("promise 15", "Returns the number of addresses that were dropped;");
        s.due("age() of forty with 1", logged(1).age(), 40);
        s.due("age() of forty with 2", logged(2).age(), 0);
        s.due("age() of 1, 2, 1, 3", Texts.loaded("capacity 8;seen 0.0.0.1 times 1;seen 0.0.0.2 times 2;"
                + "seen 0.0.0.3 times 1;seen 0.0.0.4 times 3;").age(), 2);

        s.says("promise 15", "NOT_FOUND if the log is empty (nothing changes).");
        s.same("age() of a new table", ForwardingTable::new, ForwardingTable::age, NOT_FOUND);
        s.same("age() of a log that was emptied", TrafficSentences::emptied, ForwardingTable::age, NOT_FOUND);
    }

    private static ForwardingTable emptied() {
        ForwardingTable x = logged(1);
        x.age();
        return x;
    }

    private static void log(Sentences s) {
        s.says("promise 16", "Returns the number of addresses in the log.");
        s.due("logged() of a new table", new ForwardingTable().logged(), 0);
        s.due("logged() of forty", logged(1).logged(), 40);
        s.due("logged() of a log that was emptied", emptied().logged(), 0);
        ForwardingTable x = logged(1);
        x.packet(50, 1);
        s.due("logged() with one for another", x.logged(), 40);

        s.says("promise 17", "`i`: index in the log, from 0");
        s.due("log(0, 0) of forty", logged(1).log(0, 0), 0);
        s.due("log(39, 0) of forty", logged(1).log(39, 0), 39);

        s.says("promise 17", "`what`: 0 the address (0 to 4294967295), 1 its count");
        ForwardingTable y = new ForwardingTable();
        y.packet(-1, 9999);
        y.packet(0, 1);
        s.due("log(0, 0)", y.log(0, 0), 4294967295L);
        s.due("log(0, 1)", y.log(0, 1), 9999);
        s.due("log(1, 0)", y.log(1, 0), 0);
        s.due("log(1, 1)", y.log(1, 1), 1);

        s.says("promise 17", "NOT_FOUND if there is no such address;");
        for (int what = 0; what < 2; what++) {
            s.due("log(0, " + what + ") of a new table", new ForwardingTable().log(0, what), NOT_FOUND);
            s.due("log(2, " + what + ") of two", y.log(2, what), NOT_FOUND);
            s.due("log(40, " + what + ") of forty", logged(1).log(40, what), NOT_FOUND);
            s.due("log(0, " + what + ") of a log that was emptied", emptied().log(0, what), NOT_FOUND);
            s.due("log(greatest int, " + what + ")", y.log(GREATEST, what), NOT_FOUND);
        }

        s.says("promise 17", "INVALID for a negative i or any other what.");
        s.invalid("log(-1, 0)", t -> t.log(-1, 0));
        s.invalid("log(-1, 1)", t -> t.log(-1, 1));
        s.invalid("log(least int, 0)", t -> t.log(LEAST, 0));
        s.invalid("log(0, -1)", t -> t.log(0, -1));
        s.invalid("log(0, 2)", t -> t.log(0, 2));
        s.invalid("log(99, 2)", t -> t.log(99, 2));
        s.invalid("log(0, greatest int)", t -> t.log(0, GREATEST));
    }

    private static void hopHits(Sentences s) {
        s.says("promise 20", "`hop`: 0 to 15");
        ForwardingTable x = Texts.loaded("capacity 8;route 10.0.0.0/8 hop 15;seen 10.0.0.0 times 3;seen 11.0.0.0 times 4;");
        s.due("hopHits(0)", x.hopHits(0), 4);
        s.due("hopHits(15)", x.hopHits(15), 3);
        s.due("hopHits(14)", x.hopHits(14), 0);

        s.says("promise 20", "Returns the sum of the counts of the addresses in the log whose answer it is;");
        s.due("hopHits(0) of a new table", new ForwardingTable().hopHits(0), 0);
        s.due("hopHits(0) of forty without a route", logged(9999).hopHits(0), 40 * 9999);
        ForwardingTable y = logged(9999);
        y.addRoute(0, 31, 7);
        y.addRoute(38, 31, 7);
        s.due("hopHits(7)", y.hopHits(7), 4 * 9999);
        s.due("hopHits(0) of the others", y.hopHits(0), 36 * 9999);

        s.says("promise 20", "INVALID for an invalid argument.");
        for (int hop : new int[] {-1, 16, LEAST, GREATEST}) {
            s.invalid("hopHits(" + hop + ")", t -> t.hopHits(hop));
        }
        s.due("INVALID", x.hopHits(17), INVALID);
    }

    private static void missed(Sentences s) {
        s.says("promise 34", "Returns the sum of the counts of the addresses in the log for which the software answers now.");
        s.due("missed() of a new table", new ForwardingTable().missed(), 0);
        s.due("missed() of forty with an empty hardware", logged(9999).missed(), 40 * 9999);
        ForwardingTable x = Texts.loaded("capacity 3;route 10.0.0.0/8 hop 0;route 0.0.0.0/0 hop 3;route 10.1.0.0/16 hop 2;"
                + "seen 10.0.0.1 times 1;seen 1.0.0.0 times 2;seen 10.1.0.0 times 4;");
        s.due("missed() of all", x.missed(), 7);
        x.sync(1);
        s.due("missed() with 10.1/16", x.missed(), 3);
        x.sync(1);
        s.due("missed() with 10/8 and its hop 0", x.missed(), 2);
        x.sync(1);
        s.due("missed() of none", x.missed(), 0);
        x.addRoute(Texts.ip(10, 1, 0, 0), 16, 9);
        s.due("missed() with an exception", x.missed(), 4);
        x.clear();
        s.due("missed() of a hardware that was cleared", x.missed(), 7);
    }
}
