/** Promises 6 to 13: the capacity, the routes, answers. */
public final class RouteTest {
    private static final Check CHECK = new Check("RouteTest");
    private static final int HIGH = 0x80000000;

    public static void main(String[] args) {
        capacity();
        adding();
        wrongRoutes();
        tooManyRoutes();
        removing();
        numbersOfRoutes();
        answers();
        CHECK.end();
    }

    private static void capacity() {
        ForwardingTable x = new ForwardingTable();
        CHECK.due("setCapacity(0)", x.setCapacity(0), false);
        CHECK.due("setCapacity(41)", x.setCapacity(41), false);
        CHECK.due("setCapacity(-1)", x.setCapacity(-1), false);
        CHECK.due("setCapacity(8) again", x.setCapacity(8), false);
        CHECK.due("capacity() after wrong ones", x.capacity(), 8);
        CHECK.due("undo() after wrong ones", x.undo(), -1);
        CHECK.due("setCapacity(1)", x.setCapacity(1), true);
        CHECK.due("capacity()", x.capacity(), 1);
        CHECK.due("setCapacity(40)", x.setCapacity(40), true);
        CHECK.due("capacity()", x.capacity(), 40);

        // Three prefixes are in the hardware; with the capacity 2 there is room, with 1 there is not.
        ForwardingTable y = Texts.loaded("capacity 4;route 1.0.0.0/8 hop 1;route 2.0.0.0/7 hop 2;"
                + "route 4.0.0.0/8 hop 3;seen 1.0.0.1 times 1;seen 2.0.0.1 times 1;seen 4.0.0.1 times 1;");
        y.sync(10);
        CHECK.due("setCapacity(2) with 3 prefixes", y.setCapacity(2), true);
        CHECK.due("hardwareSize() then", y.hardwareSize(), 3);
        CHECK.due("targetSize() with the new capacity", y.targetSize(), 2);
        CHECK.due("setCapacity(1) with 3 prefixes", y.setCapacity(1), true);
        CHECK.due("hardwareSize() then", y.hardwareSize(), 0);
        CHECK.due("churn then", y.count(2), 6);
        CHECK.due("clearings then", y.count(4), 1);
        y.undo();
        CHECK.due("hardwareSize() after undo()", y.hardwareSize(), 3);
        CHECK.due("capacity() after undo()", y.capacity(), 2);
        // Four prefixes fill the room of the capacity 2.
        y.addRoute(Texts.ip(1, 1, 0, 0), 16, 2);
        y.setCapacity(3);
        CHECK.due("setCapacity(2) with 4 prefixes", y.setCapacity(2), true);
        CHECK.due("hardwareSize() then", y.hardwareSize(), 4);
    }

    private static void adding() {
        ForwardingTable x = new ForwardingTable();
        CHECK.due("addRoute of the whole", x.addRoute(0, 0, 5), 0);
        CHECK.due("addRoute of it again", x.addRoute(0, 0, 5), -2);
        CHECK.due("addRoute with another hop", x.addRoute(0, 0, 0), 0);
        CHECK.due("routes()", x.routes(), 1);
        CHECK.due("route(0, 2)", x.route(0, 2), 0);
        CHECK.due("addRoute of the last address", x.addRoute(-1, 32, 15), 0);
        CHECK.due("addRoute of the upper half", x.addRoute(HIGH, 1, 1), 0);
        CHECK.due("addRoute of the lower half", x.addRoute(0, 1, 1), 0);
        CHECK.due("routes()", x.routes(), 4);
        CHECK.due("count(3)", x.count(3), 5);
        long[][] due = {{0, 0, 0}, {0, 1, 1}, {0x80000000L, 1, 1}, {0xFFFFFFFFL, 32, 15}};
        for (int i = 0; i < 4; i++) {
            for (int what = 0; what < 3; what++) {
                CHECK.due("route(" + i + ", " + what + ") in order", x.route(i, what), due[i][what]);
            }
        }
        CHECK.due("undo() after five", x.undo(), 4);
        CHECK.due("routes() after undo()", x.routes(), 3);
    }

    private static void wrongRoutes() {
        ForwardingTable x = new ForwardingTable();
        x.addRoute(HIGH, 1, 3);
        int[][] wrong = {{1, 0, 1}, {HIGH, 0, 1}, {1, 31, 1}, {0x40000000, 1, 1}, {0, 33, 1}, {0, -1, 1},
            {0, Integer.MAX_VALUE, 1}, {0, Integer.MIN_VALUE, 1}, {-1, 31, 1}};
        for (int[] w : wrong) {
            CHECK.due("addRoute of " + w[0] + "/" + w[1], x.addRoute(w[0], w[1], w[2]), -1);
            CHECK.due("removeRoute of " + w[0] + "/" + w[1], x.removeRoute(w[0], w[1]), -1);
        }
        CHECK.due("addRoute with hop 16", x.addRoute(0, 0, 16), -1);
        CHECK.due("addRoute with hop -1", x.addRoute(0, 0, -1), -1);
        CHECK.due("addRoute with hop 16 for one that is there", x.addRoute(HIGH, 1, 16), -1);
        CHECK.due("routes()", x.routes(), 1);
        CHECK.due("count(3)", x.count(3), 1);
        CHECK.due("undo()", x.undo(), 0);
    }

    private static void tooManyRoutes() {
        ForwardingTable x = new ForwardingTable();
        for (int i = 59; i >= 0; i--) {
            CHECK.due("addRoute no. " + (60 - i), x.addRoute(i, 32, i % 16), 0);
        }
        CHECK.due("addRoute no. 61", x.addRoute(60, 32, 1), ForwardingTable.FULL);
        CHECK.due("addRoute no. 61, wrong", x.addRoute(60, 32, 16), ForwardingTable.INVALID);
        CHECK.due("addRoute of one that is so", x.addRoute(59, 32, 59 % 16), ForwardingTable.NOT_FOUND);
        CHECK.due("addRoute with another hop", x.addRoute(59, 32, 1), 0);
        CHECK.due("addRoute of the first with another hop", x.addRoute(0, 32, 1), 0);
        CHECK.due("routes()", x.routes(), 60);
        CHECK.due("route(59, 2)", x.route(59, 2), 1);
        CHECK.due("route(60, 2)", x.route(60, 2), -2);
        CHECK.due("removeRoute", x.removeRoute(0, 32), 0);
        CHECK.due("addRoute no. 60 again", x.addRoute(60, 32, 1), 0);
        CHECK.due("route(0, 0)", x.route(0, 0), 1);
    }

    private static void removing() {
        ForwardingTable x = Texts.loaded("capacity 8;route 10.0.0.0/8 hop 1;route 10.0.0.0/9 hop 2;");
        CHECK.due("removeRoute of none", x.removeRoute(Texts.ip(10, 0, 0, 0), 10), -2);
        CHECK.due("removeRoute of none", x.removeRoute(Texts.ip(11, 0, 0, 0), 8), -2);
        CHECK.due("count(3)", x.count(3), 0);
        CHECK.due("removeRoute", x.removeRoute(Texts.ip(10, 0, 0, 0), 8), 0);
        CHECK.due("removeRoute again", x.removeRoute(Texts.ip(10, 0, 0, 0), 8), -2);
        CHECK.due("route(0, 1)", x.route(0, 1), 9);
        CHECK.due("routes()", x.routes(), 1);
        CHECK.due("count(3)", x.count(3), 1);
        CHECK.due("answer of the upper half", x.answer(Texts.ip(10, 128, 0, 0)), 0);
    }

    private static void numbersOfRoutes() {
        ForwardingTable x = Texts.loaded("capacity 8;route 0.0.0.0/0 hop 1;route 10.0.0.0/8 hop 2;"
                + "route 10.0.0.0/9 hop 3;route 10.128.0.0/9 hop 4;route 10.128.0.0/32 hop 4;route 11.0.0.0/8 hop 5;");
        long[] parents = {-2, 0, 1, 1, 3, 0};
        long[] matched = {(1L << 32) - (1L << 25), 0, 1 << 23, (1 << 23) - 1, 1, 1 << 24};
        for (int i = 0; i < 6; i++) {
            CHECK.due("route(" + i + ", 3)", x.route(i, 3), parents[i]);
            CHECK.due("route(" + i + ", 4)", x.route(i, 4), matched[i]);
        }
        CHECK.due("route(6, 3)", x.route(6, 3), -2);
        CHECK.due("route(6, 5)", x.route(6, 5), -1);
        CHECK.due("route(0, 5)", x.route(0, 5), -1);
        CHECK.due("route(0, -1)", x.route(0, -1), -1);
        CHECK.due("route(-1, 0)", x.route(-1, 0), -1);
        CHECK.due("route(greatest int, 0)", x.route(Integer.MAX_VALUE, 0), -2);
        CHECK.due("route(least int, 0)", x.route(Integer.MIN_VALUE, 0), -1);
        x.removeRoute(Texts.ip(10, 0, 0, 0), 8);
        CHECK.due("route(1, 3) without its parent", x.route(1, 3), 0);
        ForwardingTable y = new ForwardingTable();
        y.addRoute(0, 0, 0);
        CHECK.due("route(0, 4) of the whole", y.route(0, 4), 1L << 32);
    }

    private static void answers() {
        ForwardingTable x = Texts.loaded("capacity 8;route 10.0.0.0/8 hop 2;route 10.1.0.0/16 hop 0;"
                + "route 128.0.0.0/1 hop 3;route 255.255.255.255/32 hop 15;");
        int[][] due = {{0, 0, -2}, {Texts.ip(9, 255, 255, 255), 0, -2}, {Texts.ip(10, 0, 0, 0), 2, 0},
            {Texts.ip(10, 0, 255, 255), 2, 0}, {Texts.ip(10, 1, 0, 0), 0, 1}, {Texts.ip(10, 1, 255, 255), 0, 1},
            {Texts.ip(10, 2, 0, 0), 2, 0}, {Texts.ip(10, 255, 255, 255), 2, 0}, {Texts.ip(11, 0, 0, 0), 0, -2},
            {Integer.MAX_VALUE, 0, -2}, {Integer.MIN_VALUE, 3, 2}, {-2, 3, 2}, {-1, 15, 3}};
        for (int[] d : due) {
            CHECK.due("answer(" + d[0] + ")", x.answer(d[0]), d[1]);
            CHECK.due("matching(" + d[0] + ")", x.matching(d[0]), d[2]);
        }
        x.addRoute(0, 0, 9);
        CHECK.due("answer(0) with a route for all", x.answer(0), 9);
        CHECK.due("matching(-1) with it", x.matching(-1), 4);
    }
}
