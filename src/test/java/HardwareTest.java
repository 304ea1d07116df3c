/** Promises 29 to 33 and 35 to 37, and what section 6 asks of a route that changes. */
public final class HardwareTest {
    private static final Check CHECK = new Check("HardwareTest");
    private static final int TEN = Texts.ip(10, 0, 0, 0);
    private static final int TEN_ONE = Texts.ip(10, 1, 0, 0);
    private static final int TEN_TWO = Texts.ip(10, 2, 0, 0);

    private static final String FOUR = "route 1.0.0.0/8 hop 1;route 2.0.0.0/16 hop 2;route 4.0.0.0/8 hop 3;"
            + "route 8.0.0.0/16 hop 4;";

    public static void main(String[] args) {
        orderOfChanges();
        allKindsOfChanges();
        limits();
        clearedToMakeRoom();
        clearing();
        routeInside();
        routeInHardware();
        routeAround();
        noRoom();
        missedAfter();
        CHECK.end();
    }

    private static String changes(ForwardingTable x) {
        StringBuilder text = new StringBuilder();
        for (int i = 0; i < x.changes(); i++) {
            text.append(Model.dotted(x.change(i, 0))).append('/').append(x.change(i, 1)).append(' ')
                    .append(x.change(i, 2)).append(' ').append(x.change(i, 3)).append('\n');
        }
        return text.toString();
    }

    private static void orderOfChanges() {
        ForwardingTable x = Texts.loaded("capacity 2;" + FOUR + "seen 1.0.0.0 times 5;seen 2.0.0.0 times 5;");
        CHECK.due("changes() of an empty hardware", changes(x), "2.0.0.0/16 0 2\n1.0.0.0/8 0 1\n");
        CHECK.due("sync(200)", x.sync(200), 2);
        CHECK.due("changes() then", x.changes(), 0);
        CHECK.due("sync(1) then", x.sync(1), -2);
        CHECK.due("hardware", Texts.report(x, 3), "1.0.0.0/8 1\n2.0.0.0/16 2\n");
        x.packet(Texts.ip(4, 0, 0, 0), 9);
        x.packet(Texts.ip(8, 0, 0, 0), 9);
        // Together four prefixes, and there is room for four.
        CHECK.due("changes()", changes(x), "8.0.0.0/16 0 4\n4.0.0.0/8 0 3\n1.0.0.0/8 2 1\n2.0.0.0/16 2 2\n");
        CHECK.due("change(4, 0)", x.change(4, 0), -2);
        CHECK.due("change(0, 4)", x.change(0, 4), -1);
        CHECK.due("change(4, 4)", x.change(4, 4), -1);
        CHECK.due("change(0, -1)", x.change(0, -1), -1);
        CHECK.due("change(-1, 0)", x.change(-1, 0), -1);
        CHECK.due("sync(3)", x.sync(3), 3);
        CHECK.due("hardware", Texts.report(x, 3), "2.0.0.0/16 2\n4.0.0.0/8 3\n8.0.0.0/16 4\n");
        CHECK.due("sync(3)", x.sync(3), 1);
        CHECK.due("churn", x.count(2), 6);
        CHECK.due("clearings", x.count(4), 0);
        CHECK.due("hardwareSize()", x.hardwareSize(), 2);
        long[][] due = {{0x04000000, 8, 3}, {0x08000000, 16, 4}};
        for (int i = 0; i < 2; i++) {
            for (int what = 0; what < 3; what++) {
                CHECK.due("hardware(" + i + ", " + what + ")", x.hardware(i, what), due[i][what]);
            }
        }
        CHECK.due("hardware(2, 0)", x.hardware(2, 0), -2);
        CHECK.due("hardware(2, 3)", x.hardware(2, 3), -1);
        CHECK.due("hardware(0, -1)", x.hardware(0, -1), -1);
        CHECK.due("hardware(-1, 0)", x.hardware(-1, 0), -1);
        CHECK.due("action inside", x.action(Texts.ip(4, 255, 255, 255)), 3);
        CHECK.due("action outside", x.action(Texts.ip(5, 0, 0, 0)), -2);
    }

    private static void allKindsOfChanges() {
        ForwardingTable x = Texts.loaded("capacity 3;route 10.0.0.0/8 hop 1;route 10.1.0.0/16 hop 2;"
                + "route 10.2.0.0/16 hop 3;seen 10.0.0.1 times 9;seen 10.1.0.1 times 5;seen 10.2.0.1 times 1;");
        x.sync(9);
        CHECK.due("hardware", Texts.report(x, 3), "10.0.0.0/8 1\n10.1.0.0/16 2\n10.2.0.0/16 3\n");
        x.addRoute(TEN_TWO, 16, 4);
        x.addRoute(Texts.ip(10, 1, 1, 0), 24, 5);
        CHECK.due("hardware with exceptions", Texts.report(x, 3),
                "10.0.0.0/8 1\n10.1.0.0/16 2\n10.1.1.0/24 x\n10.2.0.0/16 x\n");
        CHECK.due("action of an exception", x.action(Texts.ip(10, 1, 1, 9)), ForwardingTable.EXCEPTION);
        // With 10.1.1/24, 10.1/16 would need two places more: an exception takes its place.
        CHECK.due("target", Texts.report(x, 2), "10.0.0.0/8 1\n10.1.0.0/16 x\n10.2.0.0/16 4\n");
        CHECK.due("changes()", changes(x), "10.1.0.0/16 1 16\n10.2.0.0/16 1 4\n10.1.1.0/24 2 16\n");
        CHECK.due("sync(1)", x.sync(1), 1);
        CHECK.due("action after 1", x.action(Texts.ip(10, 1, 9, 9)), ForwardingTable.EXCEPTION);
        CHECK.due("changes() after 1", changes(x), "10.2.0.0/16 1 4\n10.1.1.0/24 2 16\n");
        CHECK.due("sync(9)", x.sync(9), 2);
        CHECK.due("hardware is the target", Texts.report(x, 3), Texts.report(x, 2));
    }

    private static void limits() {
        ForwardingTable x = Texts.loaded("capacity 2;" + FOUR + "seen 1.0.0.0 times 5;seen 2.0.0.0 times 5;");
        CHECK.due("sync(0)", x.sync(0), -1);
        CHECK.due("sync(-1)", x.sync(-1), -1);
        CHECK.due("sync(201)", x.sync(201), -1);
        CHECK.due("hardwareSize()", x.hardwareSize(), 0);
        CHECK.due("undo()", x.undo(), -1);
        CHECK.due("sync(1)", x.sync(1), 1);
        CHECK.due("hardware: the longest first", Texts.report(x, 3), "2.0.0.0/16 2\n");
        CHECK.due("sync(1)", x.sync(1), 1);
        CHECK.due("sync(1)", x.sync(1), -2);
        CHECK.due("sync(0) when nothing is to change", x.sync(0), -1);
        CHECK.due("churn", x.count(2), 2);
        CHECK.due("undo(): what found nothing is no operation", x.undo(), 1);
        CHECK.due("hardwareSize() after undo()", x.hardwareSize(), 1);
    }

    private static void clearedToMakeRoom() {
        ForwardingTable x = Texts.loaded("capacity 2;" + FOUR + "seen 1.0.0.0 times 5;seen 2.0.0.0 times 5;");
        x.sync(9);
        x.addRoute(Texts.ip(1, 1, 0, 0), 16, 9);
        x.packet(Texts.ip(4, 0, 0, 0), 9);
        x.packet(Texts.ip(8, 0, 0, 0), 9);
        CHECK.due("hardwareSize()", x.hardwareSize(), 3);
        CHECK.due("churn", x.count(2), 3);
        // Together five prefixes: the three in the hardware go first.
        CHECK.due("changes()", changes(x), "8.0.0.0/16 0 4\n4.0.0.0/8 0 3\n");
        CHECK.due("missedAfter(0)", x.missedAfter(0), 18);
        CHECK.due("missedAfter(1)", x.missedAfter(1), 19);
        CHECK.due("missedAfter(2)", x.missedAfter(2), 10);
        CHECK.due("hardwareSize() after asking", x.hardwareSize(), 3);
        CHECK.due("sync(1)", x.sync(1), 1);
        CHECK.due("hardware", Texts.report(x, 3), "8.0.0.0/16 4\n");
        CHECK.due("churn", x.count(2), 7);
        CHECK.due("clearings", x.count(4), 1);
        CHECK.due("changes() then", changes(x), "4.0.0.0/8 0 3\n");
        x.undo();
        CHECK.due("hardwareSize() after undo()", x.hardwareSize(), 3);
        CHECK.due("churn after undo()", x.count(2), 3);
        CHECK.due("clearings after undo()", x.count(4), 0);
        // A prefix in both is counted once: with 1/8 in the target they are four.
        x.packet(Texts.ip(1, 0, 0, 0), 9999);
        x.removeRoute(Texts.ip(1, 1, 0, 0), 16);
        CHECK.due("hardware", Texts.report(x, 3), "1.0.0.0/8 1\n1.1.0.0/16 x\n2.0.0.0/16 2\n");
        CHECK.due("target", Texts.report(x, 2), "1.0.0.0/8 1\n4.0.0.0/8 3\n");
        CHECK.due("changes()", changes(x), "4.0.0.0/8 0 3\n1.1.0.0/16 2 16\n2.0.0.0/16 2 2\n");
    }

    private static void clearing() {
        ForwardingTable x = Texts.loaded("capacity 2;" + FOUR + "seen 1.0.0.0 times 5;seen 2.0.0.0 times 5;");
        CHECK.due("clear() of an empty hardware", x.clear(), -2);
        CHECK.due("undo()", x.undo(), -1);
        x.sync(9);
        CHECK.due("clear()", x.clear(), 2);
        CHECK.due("hardwareSize()", x.hardwareSize(), 0);
        CHECK.due("changes()", x.changes(), 2);
        CHECK.due("churn", x.count(2), 4);
        CHECK.due("clearings", x.count(4), 1);
        CHECK.due("clear() again", x.clear(), -2);
        CHECK.due("clearings", x.count(4), 1);
        CHECK.due("undo()", x.undo(), 1);
        CHECK.due("hardwareSize() after undo()", x.hardwareSize(), 2);
    }

    /** 10/8 and 10.1/16 are in the hardware, and there is room for four. */
    private static ForwardingTable two() {
        ForwardingTable x = Texts.loaded("capacity 2;route 10.0.0.0/8 hop 1;route 10.1.0.0/16 hop 2;"
                + "seen 10.0.0.1 times 5;seen 10.1.0.1 times 5;");
        x.sync(9);
        return x;
    }

    private static void routeInside() {
        ForwardingTable x = two();
        CHECK.due("addRoute beside all", x.addRoute(Texts.ip(11, 0, 0, 0), 8, 3), 0);
        CHECK.due("hardwareSize()", x.hardwareSize(), 2);
        CHECK.due("addRoute inside", x.addRoute(TEN_TWO, 16, 3), 1);
        CHECK.due("hardware", Texts.report(x, 3), "10.0.0.0/8 1\n10.1.0.0/16 2\n10.2.0.0/16 x\n");
        CHECK.due("addRoute inside, twice", x.addRoute(Texts.ip(10, 1, 7, 7), 32, 3), 1);
        CHECK.due("removeRoute that has an exception", x.removeRoute(TEN_TWO, 16), 2);
        CHECK.due("hardware", Texts.report(x, 3),
                "10.0.0.0/8 1\n10.1.0.0/16 2\n10.1.7.7/32 x\n10.2.0.0/16 x\n");
        CHECK.due("churn", x.count(2), 6);
        CHECK.due("routes that changed", x.count(3), 4);
    }

    private static void routeInHardware() {
        ForwardingTable x = two();
        // 10.1/16 is removed and put in again as an exception.
        CHECK.due("addRoute with another hop", x.addRoute(TEN_ONE, 16, 3), 2);
        CHECK.due("hardware", Texts.report(x, 3), "10.0.0.0/8 1\n10.1.0.0/16 x\n");
        ForwardingTable y = two();
        CHECK.due("removeRoute", y.removeRoute(TEN_ONE, 16), 2);
        CHECK.due("hardware", Texts.report(y, 3), "10.0.0.0/8 1\n10.1.0.0/16 x\n");
        CHECK.due("addRoute that is so", y.addRoute(TEN, 8, 1), -2);
        CHECK.due("hardwareSize()", y.hardwareSize(), 2);
    }

    private static void routeAround() {
        ForwardingTable x = two();
        CHECK.due("addRoute with another hop", x.addRoute(TEN, 8, 9), 2);
        CHECK.due("hardwareSize()", x.hardwareSize(), 0);
        CHECK.due("clearings: there was none", x.count(4), 0);
        ForwardingTable y = two();
        CHECK.due("addRoute around all", y.addRoute(0, 0, 9), 2);
        CHECK.due("hardwareSize()", y.hardwareSize(), 0);
        CHECK.due("churn", y.count(2), 4);
        ForwardingTable z = two();
        CHECK.due("addRoute around one, inside the other", z.addRoute(TEN, 9, 9), 2);
        CHECK.due("hardware", Texts.report(z, 3), "10.0.0.0/8 1\n10.0.0.0/9 x\n");
        ForwardingTable w = two();
        CHECK.due("addRoute around one, with the same value", w.addRoute(TEN_ONE, 15 + 2, 9), 1);
        CHECK.due("hardware", Texts.report(w, 3), "10.0.0.0/8 1\n10.1.0.0/16 2\n10.1.0.0/17 x\n");
    }

    private static void noRoom() {
        ForwardingTable x = two();
        x.addRoute(TEN_TWO, 16, 3);
        x.addRoute(Texts.ip(10, 3, 0, 0), 16, 3);
        CHECK.due("hardwareSize(), full", x.hardwareSize(), 4);
        CHECK.due("churn", x.count(2), 4);
        CHECK.due("addRoute beside all", x.addRoute(Texts.ip(11, 0, 0, 0), 8, 3), 0);
        CHECK.due("hardwareSize(), full", x.hardwareSize(), 4);
        CHECK.due("addRoute of one that has an exception", x.addRoute(TEN_TWO, 16, 4), 2);
        CHECK.due("hardwareSize(), full", x.hardwareSize(), 4);
        CHECK.due("addRoute without room", x.addRoute(Texts.ip(10, 4, 0, 0), 16, 3), 4);
        CHECK.due("hardwareSize(), cleared", x.hardwareSize(), 0);
        CHECK.due("churn", x.count(2), 10);
        CHECK.due("clearings", x.count(4), 1);
        CHECK.due("routes()", x.routes(), 6);
        x.undo();
        CHECK.due("hardwareSize() after undo()", x.hardwareSize(), 4);
        CHECK.due("clearings after undo()", x.count(4), 0);
    }

    private static void missedAfter() {
        ForwardingTable x = Texts.loaded("capacity 2;" + FOUR + "seen 1.0.0.0 times 5;seen 2.0.0.0 times 7;"
                + "seen 4.0.0.0 times 1;seen 99.0.0.0 times 3;");
        CHECK.due("missedAfter(-1)", x.missedAfter(-1), -1);
        CHECK.due("missedAfter(201)", x.missedAfter(201), -1);
        CHECK.due("missedAfter(0)", x.missedAfter(0), 16);
        CHECK.due("missedAfter(1)", x.missedAfter(1), 9);
        CHECK.due("missedAfter(2)", x.missedAfter(2), 4);
        CHECK.due("missedAfter(200)", x.missedAfter(200), 4);
        CHECK.due("missed()", x.missed(), 16);
        x.sync(200);
        CHECK.due("missedAfter(5) when nothing is to change", x.missedAfter(5), 4);
        CHECK.due("churn after asking", x.count(2), 2);
        // On the way from one target to the other, the old prefixes still answer.
        x.packet(Texts.ip(4, 0, 0, 0), 20);
        x.packet(Texts.ip(8, 0, 0, 0), 20);
        int[] due = {44, 24, 3, 8, 15, 15};
        for (int limit = 0; limit < due.length; limit++) {
            CHECK.due("missedAfter(" + limit + ") on the way", x.missedAfter(limit), due[limit]);
        }
    }
}
