/** Promises 47 to 50, and what section 8 asks of calls: counts, undo, reports. */
public final class HistoryTest {
    private static final Check CHECK = new Check("HistoryTest");

    public static void main(String[] args) {
        counts();
        undoOfEachOperation();
        eightUndos();
        noOperations();
        undoLeavesTheTape();
        reports();
        longReports();
        fullestHardware();
        CHECK.end();
    }

    private static void counts() {
        ForwardingTable x = Texts.loaded("capacity 1;route 10.0.0.0/8 hop 1;seen 10.0.0.0 times 9;");
        x.packet(5, 7);
        x.sync(1);
        x.packet(Texts.ip(10, 0, 0, 0), 30);
        x.addRoute(Texts.ip(10, 1, 0, 0), 16, 2);
        x.addRoute(Texts.ip(10, 1, 0, 0), 16, 3);
        x.removeRoute(Texts.ip(10, 1, 0, 0), 16);
        x.clear();
        CHECK.due("count(0)", x.count(0), 30);
        CHECK.due("count(1)", x.count(1), 7);
        // In; then 1, 2 and 2 for 10.1/16; then 2 go.
        CHECK.due("count(2)", x.count(2), 8);
        CHECK.due("count(3)", x.count(3), 3);
        CHECK.due("count(4)", x.count(4), 1);
        CHECK.due("count(5)", x.count(5), -1);
        CHECK.due("count(-1)", x.count(-1), -1);
        CHECK.due("count(greatest int)", x.count(Integer.MAX_VALUE), -1);
    }

    private static final String TEXT = "capacity 2;route 10.0.0.0/8 hop 1;route 20.0.0.0/8 hop 2;"
            + "seen 10.0.0.0 times 9;seen 20.0.0.0 times 1;";

    /** All that a table tells of its state. */
    private static String all(ForwardingTable x) {
        StringBuilder text = new StringBuilder();
        for (int kind = 0; kind < 5; kind++) {
            text.append(Texts.report(x, kind)).append("--\n");
        }
        for (int what = 0; what < 5; what++) {
            text.append(x.count(what)).append(' ');
        }
        return text.append(x.capacity()).append(' ').append(x.changes()).append(' ').append(x.runs()).append(' ')
                .append(x.lostHits()).append(' ').append(x.missedAfter(1)).append(' ').append(x.hardwareAddresses())
                .toString();
    }

    private static void undone(String what, ForwardingTable x, String before, int due) {
        CHECK.due(what + " changes something", all(x).equals(before), false);
        CHECK.due("undo() of " + what, x.undo(), due);
        CHECK.due("all after undo() of " + what, all(x), before);
    }

    private static void undoOfEachOperation() {
        ForwardingTable x = Texts.loaded(TEXT);
        x.sync(1);
        String before = all(x);
        x.addRoute(Texts.ip(10, 0, 0, 0), 9, 7);
        undone("addRoute", x, before, 1);
        x.addRoute(Texts.ip(10, 0, 0, 0), 8, 7);
        undone("addRoute with another hop", x, before, 1);
        x.removeRoute(Texts.ip(10, 0, 0, 0), 8);
        undone("removeRoute", x, before, 1);
        x.packet(Texts.ip(10, 0, 0, 0), 1);
        undone("packet", x, before, 1);
        x.packet(77, 1);
        undone("packet for another address", x, before, 1);
        x.age();
        undone("age", x, before, 1);
        x.sync(5);
        undone("sync", x, before, 1);
        x.clear();
        undone("clear", x, before, 1);
        x.setCapacity(1);
        undone("setCapacity", x, before, 1);
        CHECK.due("undo() of the first sync", x.undo(), 0);
        CHECK.due("hardwareSize()", x.hardwareSize(), 0);
        CHECK.due("undo() of nothing", x.undo(), -1);
        CHECK.due("routes()", x.routes(), 2);
    }

    private static void eightUndos() {
        ForwardingTable x = new ForwardingTable();
        for (int i = 0; i < 11; i++) {
            x.packet(i, 1);
        }
        for (int i = 7; i >= 0; i--) {
            CHECK.due("undo() of eight", x.undo(), i);
            CHECK.due("logged()", x.logged(), i + 3);
        }
        CHECK.due("undo() of a ninth", x.undo(), -1);
        CHECK.due("logged()", x.logged(), 3);
        x.packet(50, 1);
        x.packet(51, 1);
        CHECK.due("undo()", x.undo(), 1);
        x.packet(52, 1);
        CHECK.due("undo() of what came behind an undo()", x.undo(), 1);
        CHECK.due("log(3, 0)", x.log(3, 0), 50);
        CHECK.due("undo()", x.undo(), 0);
        CHECK.due("undo()", x.undo(), -1);
        CHECK.due("count(1) after all", x.count(1), 3);
    }

    private static void noOperations() {
        ForwardingTable x = Texts.loaded(TEXT);
        x.sync(200);
        x.addRoute(Texts.ip(10, 0, 0, 0), 8, 1);
        x.addRoute(1, 8, 1);
        x.removeRoute(1, 32);
        x.removeRoute(1, 8);
        x.packet(1, 0);
        x.sync(200);
        x.sync(0);
        x.setCapacity(2);
        x.setCapacity(0);
        CHECK.due("undo() behind what is no operation", x.undo(), 0);
        CHECK.due("clear() of an empty hardware", x.clear(), -2);
        CHECK.due("undo()", x.undo(), -1);
        ForwardingTable y = new ForwardingTable();
        y.age();
        CHECK.due("undo() behind age() of an empty log", y.undo(), -1);
    }

    private static void undoLeavesTheTape() {
        ForwardingTable x = new ForwardingTable();
        x.packet(1, 1);
        x.append(1, 2, 3, 4, 5);
        CHECK.due("undo()", x.undo(), 0);
        CHECK.due("tapeLength() after undo()", x.tapeLength(), 20);
        x.packet(1, 1);
        x.load();
        CHECK.due("errorPosition()", x.errorPosition(), 0);
        CHECK.due("undo() after a wrong load()", x.undo(), 0);
        CHECK.due("errorPosition() after undo()", x.errorPosition(), 0);
        x.packet(1, 1);
        Texts.load(x, "capacity 5;");
        CHECK.due("undo() after a right load()", x.undo(), -1);
        CHECK.due("capacity()", x.capacity(), 5);
    }

    private static void report(ForwardingTable x, int kind, String due) {
        CHECK.due("report " + kind, Texts.report(x, kind), due);
        CHECK.due("reportLength(" + kind + ")", x.reportLength(kind), due.length());
        CHECK.due("reportByte behind report " + kind, x.reportByte(kind, due.length()), -2);
        CHECK.due("reportByte far behind report " + kind, x.reportByte(kind, Integer.MAX_VALUE), -2);
        CHECK.due("reportByte(" + kind + ", -1)", x.reportByte(kind, -1), -1);
        CHECK.due("reportByte(" + kind + ", least int)", x.reportByte(kind, Integer.MIN_VALUE), -1);
    }

    private static void reports() {
        ForwardingTable x = Texts.loaded("capacity 3;route 10.0.0.0/8 hop 1;route 10.1.0.0/16 hop 2;"
                + "route 10.1.2.0/24 hop 3;route 200.100.0.0/16 hop 15;route 255.255.255.255/32 hop 0;"
                + "seen 10.9.0.255 times 100;seen 10.1.2.3 times 9;seen 0.0.0.0 times 10;");
        report(x, 0, "10.0.0.0/8 1\n10.1.0.0/16 2\n10.1.2.0/24 3\n200.100.0.0/16 15\n255.255.255.255/32 0\n");
        report(x, 1, "10.0.0.0/8 1\n10.1.0.0/16 2\n10.1.2.0/24 3\n200.100.0.0/16 15\n");
        report(x, 2, "10.0.0.0/8 1\n10.1.0.0/16 2\n10.1.2.0/24 3\n");
        report(x, 3, "");
        report(x, 4, "10.9.0.255 100\n10.1.2.3 9\n0.0.0.0 10\n");
        x.setCapacity(2);
        report(x, 2, "10.0.0.0/8 1\n10.1.0.0/16 x\n");
        x.sync(1);
        report(x, 3, "10.1.0.0/16 x\n");
        x.sync(1);
        report(x, 3, "10.0.0.0/8 1\n10.1.0.0/16 x\n");
        x.age();
        report(x, 4, "10.9.0.255 50\n10.1.2.3 4\n0.0.0.0 5\n");
        CHECK.due("reportLength(5)", x.reportLength(5), -1);
        CHECK.due("reportLength(-1)", x.reportLength(-1), -1);
        CHECK.due("reportByte(5, 0)", x.reportByte(5, 0), -1);
        CHECK.due("reportByte(-1, 0)", x.reportByte(-1, 0), -1);
        CHECK.due("reportByte(5, 99999)", x.reportByte(5, 99999), -1);
    }

    /** The longest lines, and as many of them as there can be. */
    private static void longReports() {
        ForwardingTable x = new ForwardingTable();
        StringBuilder routes = new StringBuilder();
        for (int i = 0; i < 60; i++) {
            x.addRoute(-256 + 100 + i, 32, 15);
            routes.append("255.255.255.").append(100 + i).append("/32 15\n");
        }
        CHECK.due("report of sixty routes", Texts.report(x, 0), routes.toString());
        StringBuilder log = new StringBuilder();
        for (int i = 0; i < 40; i++) {
            for (int k = 0; k < 101; k++) {
                x.packet(-256 + 100 + i, 9999);
            }
            log.append("255.255.255.").append(100 + i).append(" 999999\n");
        }
        CHECK.due("report of a full log", Texts.report(x, 4), log.toString());
        CHECK.due("reportLength(4) of a full log", x.reportLength(4), 40 * 23);
        CHECK.due("hopHits(15) of a full log", x.hopHits(15), 40 * 999999);
    }

    /** Eighty prefixes in the hardware: forty of the target, and forty exceptions. */
    private static void fullestHardware() {
        ForwardingTable x = new ForwardingTable();
        x.setCapacity(40);
        x.addRoute(-256, 24, 1);
        StringBuilder due = new StringBuilder("255.255.255.0/24 1\n255.255.255.101/32 x\n");
        for (int i = 1; i < 40; i++) {
            x.addRoute(-156 + 2 * i, 32, 15);
            x.packet(-156 + 2 * i, 5);
            due.append("255.255.255.").append(100 + 2 * i).append("/32 15\n");
            due.append("255.255.255.").append(101 + 2 * i).append("/32 x\n");
        }
        x.packet(-256, 5);
        CHECK.due("sync(200)", x.sync(200), 40);
        for (int i = 0; i < 40; i++) {
            CHECK.due("addRoute", x.addRoute(-155 + 2 * i, 32, 14), 1);
            CHECK.due("removeRoute", x.removeRoute(-155 + 2 * i, 32), 2);
        }
        CHECK.due("hardwareSize()", x.hardwareSize(), 80);
        CHECK.due("report of eighty prefixes", Texts.report(x, 3), due.toString());
        CHECK.due("reportLength(3)", x.reportLength(3), 19 + 39 * 22 + 40 * 21);
        CHECK.due("changes()", x.changes(), 40);
        CHECK.due("missed()", x.missed(), 0);
        CHECK.due("hardwareAddresses()", x.hardwareAddresses(), 256 - 40);
        CHECK.due("addRoute without room", x.addRoute(-256, 32, 14), 80);
        CHECK.due("clearings", x.count(4), 1);
    }
}
