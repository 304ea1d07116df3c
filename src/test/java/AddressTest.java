/** Promises 38 to 44: counting addresses, runs, redundant routes, nesting. */
public final class AddressTest {
    private static final Check CHECK = new Check("AddressTest");
    private static final long ALL = 1L << 32;

    public static void main(String[] args) {
        addresses();
        hardwareAddresses();
        nextOther();
        runs();
        redundant();
        nesting();
        CHECK.end();
    }

    private static void addresses() {
        ForwardingTable x = new ForwardingTable();
        CHECK.due("addresses(0) of all", x.addresses(0), ALL);
        CHECK.due("addresses(15) of none", x.addresses(15), 0);
        CHECK.due("addresses(16)", x.addresses(16), -1);
        CHECK.due("addresses(-1)", x.addresses(-1), -1);
        x.addRoute(0, 0, 3);
        CHECK.due("addresses(3) of all", x.addresses(3), ALL);
        CHECK.due("addresses(0)", x.addresses(0), 0);
        x.addRoute(Texts.ip(10, 0, 0, 0), 8, 0);
        x.addRoute(Texts.ip(10, 0, 0, 0), 32, 3);
        x.addRoute(-1, 32, 15);
        CHECK.due("addresses(0)", x.addresses(0), (1 << 24) - 1);
        CHECK.due("addresses(3)", x.addresses(3), ALL - (1 << 24));
        CHECK.due("addresses(15)", x.addresses(15), 1);
        x.removeRoute(0, 0);
        CHECK.due("addresses(0) with those without a route", x.addresses(0), ALL - 2);
        CHECK.due("addresses(3)", x.addresses(3), 1);
    }

    private static void hardwareAddresses() {
        ForwardingTable x = Texts.loaded("capacity 8;route 0.0.0.0/0 hop 1;route 10.0.0.0/8 hop 0;"
                + "seen 1.1.1.1 times 1;seen 10.1.1.1 times 1;");
        CHECK.due("hardwareAddresses() of an empty one", x.hardwareAddresses(), 0);
        x.sync(1);
        CHECK.due("hardwareAddresses() with 10/8", x.hardwareAddresses(), 1 << 24);
        x.sync(1);
        CHECK.due("hardwareAddresses() of all", x.hardwareAddresses(), ALL);
        x.addRoute(Texts.ip(10, 0, 0, 0), 16, 2);
        CHECK.due("hardwareAddresses() without an exception", x.hardwareAddresses(), ALL - (1 << 16));
        x.addRoute(Texts.ip(9, 0, 0, 0), 8, 2);
        CHECK.due("hardwareAddresses() without two", x.hardwareAddresses(), ALL - (1 << 16) - (1 << 24));
        x.clear();
        CHECK.due("hardwareAddresses() after clear()", x.hardwareAddresses(), 0);
        // An exception whose inside is kept: the inside counts again.
        ForwardingTable y = Texts.loaded("capacity 3;route 10.0.0.0/8 hop 1;route 10.1.0.0/16 hop 2;"
                + "route 10.1.2.0/24 hop 3;seen 10.9.0.0 times 9;seen 10.1.2.3 times 9;");
        y.sync(9);
        y.addRoute(Texts.ip(10, 1, 0, 0), 16, 4);
        y.sync(9);
        CHECK.due("hardware", Texts.report(y, 3), "10.0.0.0/8 1\n10.1.0.0/16 4\n10.1.2.0/24 3\n");
        y.addRoute(Texts.ip(10, 1, 0, 0), 16, 5);
        y.sync(1);
        CHECK.due("hardware", Texts.report(y, 3), "10.0.0.0/8 1\n10.1.0.0/16 x\n10.1.2.0/24 3\n");
        CHECK.due("hardwareAddresses()", y.hardwareAddresses(), (1 << 24) - (1 << 16) + (1 << 8));
    }

    private static void nextOther() {
        ForwardingTable x = Texts.loaded("capacity 8;route 10.0.0.0/8 hop 1;route 11.0.0.0/8 hop 1;"
                + "route 10.1.0.0/16 hop 1;route 128.0.0.0/1 hop 2;route 255.255.255.255/32 hop 3;");
        CHECK.due("nextOther(0)", x.nextOther(0), 0x0A000000);
        CHECK.due("nextOther just below", x.nextOther(0x09FFFFFF), 0x0A000000);
        CHECK.due("nextOther of 10.0.0.0", x.nextOther(0x0A000000), 0x0C000000);
        CHECK.due("nextOther of 10.1.0.0", x.nextOther(0x0A010000), 0x0C000000);
        CHECK.due("nextOther of 12.0.0.0", x.nextOther(0x0C000000), 0x80000000L);
        CHECK.due("nextOther of the greatest int", x.nextOther(Integer.MAX_VALUE), 0x80000000L);
        CHECK.due("nextOther of the least int", x.nextOther(Integer.MIN_VALUE), 0xFFFFFFFFL);
        CHECK.due("nextOther(-2)", x.nextOther(-2), 0xFFFFFFFFL);
        CHECK.due("nextOther(-1)", x.nextOther(-1), -2);
        CHECK.due("nextOther without routes", new ForwardingTable().nextOther(5), -2);
        x.removeRoute(-1, 32);
        CHECK.due("nextOther in the last run", x.nextOther(-5), -2);
        ForwardingTable y = new ForwardingTable();
        y.addRoute(0, 32, 1);
        CHECK.due("nextOther(0) is 1", y.nextOther(0), 1);
        CHECK.due("nextOther(1)", y.nextOther(1), -2);
    }

    private static void runs() {
        ForwardingTable x = new ForwardingTable();
        CHECK.due("runs() without routes", x.runs(), 1);
        x.addRoute(0, 0, 5);
        CHECK.due("runs() of one", x.runs(), 1);
        x.addRoute(0, 1, 6);
        CHECK.due("runs() of two halves", x.runs(), 2);
        x.addRoute(0, 32, 5);
        CHECK.due("runs() with the first address", x.runs(), 3);
        x.addRoute(-1, 32, 6);
        CHECK.due("runs() with the last address", x.runs(), 4);
        x.addRoute(0x80000000, 32, 6);
        CHECK.due("runs() with one that goes on", x.runs(), 4);
        x.addRoute(0x80000000, 32, 7);
        CHECK.due("runs() with one between", x.runs(), 5);
        x.addRoute(0x80000000, 1, 5);
        CHECK.due("runs() with a route that changes nothing", x.runs(), 5);
        ForwardingTable y = new ForwardingTable();
        for (int i = 0; i < 60; i++) {
            y.addRoute(4 * i + 1, 32, 1);
        }
        CHECK.due("runs() at the most", y.runs(), 121);
    }

    private static void redundant() {
        ForwardingTable x = Texts.loaded("capacity 8;route 10.0.0.0/8 hop 1;route 10.0.0.0/9 hop 1;"
                + "route 10.128.0.0/9 hop 2;route 10.128.0.0/10 hop 2;route 20.0.0.0/8 hop 0;route 20.0.0.0/16 hop 3;"
                + "route 30.0.0.0/8 hop 4;route 30.0.0.0/9 hop 5;route 30.128.0.0/9 hop 6;");
        // 10/9 and 10.128/10 say what is around them, 20/8 what is so without a route, and 30/8
        // matches no address; 10/8 matches none either.
        boolean[] due = {true, true, false, true, true, false, true, false, false};
        int sum = 0;
        for (int i = 0; i < due.length; i++) {
            CHECK.due("isRedundant(" + i + ")", x.isRedundant(i), due[i]);
            sum += due[i] ? 1 : 0;
        }
        CHECK.due("redundant()", x.redundant(), sum);
        CHECK.due("isRedundant(-1)", x.isRedundant(-1), false);
        CHECK.due("isRedundant(9)", x.isRedundant(9), false);
        CHECK.due("isRedundant(greatest int)", x.isRedundant(Integer.MAX_VALUE), false);
        CHECK.due("isRedundant(least int)", x.isRedundant(Integer.MIN_VALUE), false);
        // Each by itself: without 10/9, 10/8 is needed.
        x.removeRoute(Texts.ip(10, 0, 0, 0), 9);
        CHECK.due("isRedundant(0) without 10/9", x.isRedundant(0), false);
        CHECK.due("redundant() without 10/9", x.redundant(), 3);
        CHECK.due("redundant() of a new one", new ForwardingTable().redundant(), 0);
    }

    private static void nesting() {
        ForwardingTable x = new ForwardingTable();
        CHECK.due("nesting() without routes", x.nesting(), 0);
        x.addRoute(0x40000000, 2, 1);
        CHECK.due("nesting() of one", x.nesting(), 1);
        x.addRoute(0x80000000, 2, 1);
        CHECK.due("nesting() of two beside each other", x.nesting(), 1);
        x.addRoute(0x80000000, 1, 1);
        CHECK.due("nesting() of two inside each other", x.nesting(), 2);
        x.addRoute(0xC0000000, 32, 1);
        CHECK.due("nesting() beside", x.nesting(), 2);
        x.addRoute(0, 0, 1);
        CHECK.due("nesting() around", x.nesting(), 3);
        ForwardingTable y = new ForwardingTable();
        for (int length = 32; length >= 0; length--) {
            y.addRoute(0, length, length % 16);
        }
        CHECK.due("nesting() at the most", y.nesting(), 33);
        CHECK.due("route(32, 3) there", y.route(32, 3), 31);
        CHECK.due("route(32, 4) there", y.route(32, 4), 1);
        CHECK.due("route(0, 4) there", y.route(0, 4), 1L << 31);
    }
}
