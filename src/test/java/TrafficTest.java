/** Promises 14 to 17, 20 and 34: packets, the log, hits of a hop, missed packets. */
public final class TrafficTest {
    private static final Check CHECK = new Check("TrafficTest");

    public static void main(String[] args) {
        packets();
        greatestCount();
        fullLog();
        ageing();
        hopHits();
        missed();
        CHECK.end();
    }

    private static void packets() {
        ForwardingTable x = Texts.loaded("capacity 8;route 10.0.0.0/8 hop 1;");
        int a = Texts.ip(10, 0, 0, 1);
        CHECK.due("packet(.., 0)", x.packet(a, 0), -1);
        CHECK.due("packet(.., 10000)", x.packet(a, 10000), -1);
        CHECK.due("packet(.., -5)", x.packet(a, -5), -1);
        CHECK.due("logged()", x.logged(), 0);
        CHECK.due("undo()", x.undo(), -1);
        CHECK.due("packet(-1, 1)", x.packet(-1, 1), 0);
        CHECK.due("packet(a, 9999)", x.packet(a, 9999), 0);
        CHECK.due("packet(-1, 3)", x.packet(-1, 3), 0);
        CHECK.due("logged()", x.logged(), 2);
        CHECK.due("log(0, 0)", x.log(0, 0), 0xFFFFFFFFL);
        CHECK.due("log(0, 1)", x.log(0, 1), 4);
        CHECK.due("log(1, 0)", x.log(1, 0), 0x0A000001);
        CHECK.due("log(1, 1)", x.log(1, 1), 9999);
        CHECK.due("log(2, 0)", x.log(2, 0), -2);
        CHECK.due("log(2, 1)", x.log(2, 1), -2);
        CHECK.due("log(2, 2)", x.log(2, 2), -1);
        CHECK.due("log(0, -1)", x.log(0, -1), -1);
        CHECK.due("log(-1, 0)", x.log(-1, 0), -1);
        CHECK.due("count(1)", x.count(1), 10003);
        CHECK.due("count(0)", x.count(0), 0);
        x.sync(5);
        CHECK.due("packet that the hardware answers", x.packet(a, 2), 1);
        CHECK.due("packet that it does not answer", x.packet(0, 7), 0);
        CHECK.due("count(0)", x.count(0), 2);
        CHECK.due("count(1)", x.count(1), 10010);
        // An exception in the hardware is no answer.
        x.addRoute(Texts.ip(10, 0, 0, 0), 16, 3);
        CHECK.due("packet for an exception", x.packet(a, 1), 0);
        CHECK.due("packet beside the exception", x.packet(Texts.ip(10, 1, 0, 0), 1), 1);
        // A hop 0 in the hardware is an answer.
        ForwardingTable y = Texts.loaded("capacity 8;route 0.0.0.0/0 hop 1;route 10.0.0.0/8 hop 0;"
                + "seen 10.0.0.1 times 3;seen 127.0.0.0 times 3;");
        y.sync(5);
        CHECK.due("action(a) is the hop 0", y.action(a), 0);
        CHECK.due("packet answered with hop 0", y.packet(a, 1), 1);
    }

    private static void greatestCount() {
        ForwardingTable x = new ForwardingTable();
        for (int i = 0; i < 101; i++) {
            x.packet(5, 9999);
        }
        CHECK.due("log(0, 1) at the most", x.log(0, 1), 999999);
        CHECK.due("count(1) goes on", x.count(1), 101 * 9999);
        x.undo();
        CHECK.due("log(0, 1) after undo()", x.log(0, 1), 999900);
        x.packet(5, 99);
        CHECK.due("log(0, 1) just at the most", x.log(0, 1), 999999);
    }

    private static void fullLog() {
        ForwardingTable x = new ForwardingTable();
        for (int i = 0; i < 40; i++) {
            x.packet(i, i == 0 ? 9 : i == 7 || i == 20 ? 2 : 3);
        }
        CHECK.due("logged() when full", x.logged(), 40);
        x.packet(7, 1);
        CHECK.due("logged() when full and known", x.logged(), 40);
        // Now 20 has the smallest count alone; then 1 is the first of those with 3.
        x.packet(100, 1);
        CHECK.due("logged()", x.logged(), 40);
        CHECK.due("log(20, 0)", x.log(20, 0), 21);
        CHECK.due("log(39, 0)", x.log(39, 0), 100);
        CHECK.due("log(39, 1)", x.log(39, 1), 1);
        x.packet(101, 5);
        CHECK.due("log(39, 0): the new one replaces the one with 1", x.log(39, 0), 101);
        CHECK.due("log(38, 0)", x.log(38, 0), 39);
        x.packet(102, 3);
        CHECK.due("log(0, 0)", x.log(0, 0), 0);
        CHECK.due("log(1, 0): the first with 3 is dropped", x.log(1, 0), 2);
        CHECK.due("log(39, 0)", x.log(39, 0), 102);
        x.packet(1, 1);
        CHECK.due("log(1, 0): 2 is dropped for 1", x.log(1, 0), 3);
        CHECK.due("log(39, 0): 1 comes in at the end", x.log(39, 0), 1);
        x.undo();
        CHECK.due("log(1, 0) after undo()", x.log(1, 0), 2);
    }

    private static void ageing() {
        ForwardingTable x = Texts.loaded("capacity 8;seen 1.0.0.0 times 1;seen 2.0.0.0 times 5;"
                + "seen 3.0.0.0 times 2;seen 4.0.0.0 times 1;");
        CHECK.due("age()", x.age(), 2);
        CHECK.due("logged()", x.logged(), 2);
        CHECK.due("log(0, 0)", x.log(0, 0), 0x02000000);
        CHECK.due("log(0, 1)", x.log(0, 1), 2);
        CHECK.due("log(1, 1)", x.log(1, 1), 1);
        CHECK.due("age()", x.age(), 1);
        CHECK.due("age()", x.age(), 1);
        CHECK.due("logged()", x.logged(), 0);
        CHECK.due("age() of an empty log", x.age(), -2);
        CHECK.due("undo()", x.undo(), 2);
        CHECK.due("log(0, 1) after undo()", x.log(0, 1), 1);
        ForwardingTable y = Texts.loaded("capacity 8;seen 1.0.0.0 times 4;");
        y.addRoute(0, 1, 1);
        CHECK.due("entry(0, 4) before age()", y.entry(0, 4), 4);
        CHECK.due("age() that drops none", y.age(), 0);
        CHECK.due("entry(0, 4) after age()", y.entry(0, 4), 2);
        CHECK.due("it can be undone", y.undo(), 1);
        CHECK.due("entry(0, 4) after undo()", y.entry(0, 4), 4);
    }

    private static void hopHits() {
        ForwardingTable x = Texts.loaded("capacity 8;route 10.0.0.0/8 hop 1;route 10.1.0.0/16 hop 15;"
                + "seen 10.0.0.1 times 10;seen 10.1.0.1 times 20;seen 11.0.0.0 times 40;seen 10.2.0.0 times 80;");
        CHECK.due("hopHits(0)", x.hopHits(0), 40);
        CHECK.due("hopHits(1)", x.hopHits(1), 90);
        CHECK.due("hopHits(2)", x.hopHits(2), 0);
        CHECK.due("hopHits(15)", x.hopHits(15), 20);
        CHECK.due("hopHits(16)", x.hopHits(16), -1);
        CHECK.due("hopHits(-1)", x.hopHits(-1), -1);
        x.removeRoute(Texts.ip(10, 1, 0, 0), 16);
        CHECK.due("hopHits(1) without a route", x.hopHits(1), 110);
    }

    private static void missed() {
        ForwardingTable x = Texts.loaded("capacity 2;route 10.0.0.0/8 hop 1;route 10.1.0.0/16 hop 2;"
                + "route 10.2.0.0/16 hop 3;seen 10.0.0.1 times 10;seen 10.1.0.1 times 20;seen 10.2.0.1 times 4;"
                + "seen 99.0.0.0 times 1;");
        CHECK.due("missed() of an empty hardware", x.missed(), 35);
        CHECK.due("lostHits(): 10.1/16 and 10.2/16 are kept", x.lostHits(), 10);
        x.sync(9);
        CHECK.due("missed() after sync()", x.missed(), 11);
        x.setCapacity(3);
        x.sync(9);
        CHECK.due("missed() with all kept", x.missed(), 1);
        x.addRoute(Texts.ip(10, 1, 0, 0), 16, 9);
        CHECK.due("missed() with an exception", x.missed(), 21);
        x.clear();
        CHECK.due("missed() after clear()", x.missed(), 35);
    }
}
