/** The sentences of sections 1 and 2 and of promises 6 to 13: prefixes, the capacity, routes. */
final class PrefixSentences {
    private static final int INVALID = ForwardingTable.INVALID;
    private static final int NOT_FOUND = ForwardingTable.NOT_FOUND;
    private static final int LEAST = Integer.MIN_VALUE;
    private static final int GREATEST = Integer.MAX_VALUE;
    private static final int TEN = Texts.ip(10, 0, 0, 0);

    private PrefixSentences() {
    }

    static void tests(Sentences s) {
        s.run(PrefixSentences::addresses);
        s.run(PrefixSentences::prefixes);
        s.run(PrefixSentences::insideAndOrder);
        s.run(PrefixSentences::routes);
        s.run(PrefixSentences::matching);
        s.run(PrefixSentences::capacity);
        s.run(PrefixSentences::setCapacity);
        s.run(PrefixSentences::tellingRoutes);
        s.run(PrefixSentences::wrongRouteNumbers);
        s.run(PrefixSentences::addRoute);
        s.run(PrefixSentences::addRouteRefused);
        s.run(PrefixSentences::removeRoute);
        s.run(PrefixSentences::answerAndMatching);
    }

    private static ForwardingTable with(int... routes) {
        ForwardingTable x = new ForwardingTable();
        for (int i = 0; i < routes.length; i += 3) {
            x.addRoute(routes[i], routes[i + 1], routes[i + 2]);
        }
        return x;
    }

    private static ForwardingTable sixty() {
        ForwardingTable x = new ForwardingTable();
        for (int i = 59; i >= 0; i--) {
            x.addRoute(2 * i, 32, i % 16);
        }
        return x;
    }

    /** The first bits of an address, all others 0. */
    private static int firstBits(int address, int length) {
        return length == 0 ? 0 : address >> (32 - length) << (32 - length);
    }

    /** An address with all bits behind the first ones 1. */
    private static int lastOf(int value, int length) {
        return length == 32 ? value : value | -1 >>> length;
    }

    private static void addresses(Sentences s) {
        s.says("section 1", "An address is an int, read as an unsigned number of 32 bits, the most significant bit first.");
        ForwardingTable x = with(LEAST, 1, 3);
        s.due("answer(0)", x.answer(0), 0);
        s.due("answer(greatest int)", x.answer(GREATEST), 0);
        s.due("answer(least int)", x.answer(LEAST), 3);
        s.due("answer(-1)", x.answer(-1), 3);
        x.packet(-1, 1);
        x.packet(LEAST, 1);
        x.packet(GREATEST, 1);
        s.due("log(0, 0) of -1", x.log(0, 0), 4294967295L);
        s.due("log(1, 0) of the least int", x.log(1, 0), 2147483648L);
        s.due("log(2, 0) of the greatest int", x.log(2, 0), 2147483647L);
        s.due("route(0, 0)", x.route(0, 0), 2147483648L);
        s.due("entry(0, 0)", x.entry(0, 0), 2147483648L);
        s.due("target(0, 0)", x.target(0, 0), 2147483648L);
        s.due("change(0, 0)", x.change(0, 0), 2147483648L);
        x.sync(1);
        s.due("hardware(0, 0)", x.hardware(0, 0), 2147483648L);
        s.due("action(-1)", x.action(-1), 3);
        s.due("action(greatest int)", x.action(GREATEST), NOT_FOUND);
        s.due("nextOther(greatest int)", x.nextOther(GREATEST), 2147483648L);
    }

    private static void prefixes(Sentences s) {
        s.says("section 1", "A prefix has a length L (0 to 32) and a value, which is an address whose last 32 - L bits are 0.");
        for (int length = 0; length <= 32; length++) {
            int value = firstBits(-1, length);
            s.due("addRoute(" + value + ", " + length + ", 1)", with().addRoute(value, length, 1), 0);
            s.due("addRoute(0, " + length + ", 1)", with().addRoute(0, length, 1), 0);
            for (int bit = 0; bit < 32 - length; bit++) {
                s.due("addRoute with bit " + bit + " and " + length, with().addRoute(1 << bit, length, 1), INVALID);
            }
            for (int bit = 32 - length; bit < 32; bit++) {
                s.due("addRoute with bit " + bit + " and " + length, with().addRoute(1 << bit, length, 1), 0);
            }
        }
        // Shifts by these lengths would be shifts by 31, 1, 0 and 0.
        for (int length : new int[] {-1, 33, 64, LEAST, GREATEST}) {
            s.due("addRoute(0, " + length + ", 1)", with().addRoute(0, length, 1), INVALID);
        }

        s.says("section 1", "It contains the addresses that agree with its value in their first L bits.");
        for (int length = 0; length <= 32; length++) {
            for (int pattern : new int[] {0, -1, 0xAAAAAAAA}) {
                int value = firstBits(pattern, length);
                ForwardingTable x = with(value, length, 7);
                String of = " of " + Integer.toUnsignedString(value) + "/" + length;
                s.due("the first address" + of, x.answer(value), 7);
                s.due("the last address" + of, x.answer(lastOf(value, length)), 7);
                // Below 0 comes the greatest address, and above that one comes 0.
                s.due("the address below" + of, x.answer(value - 1), length == 0 ? 7 : 0);
                s.due("the address above" + of, x.answer(lastOf(value, length) + 1), length == 0 ? 7 : 0);
                for (int bit = 0; bit < 32; bit++) {
                    s.due("bit " + bit + " changed" + of, x.answer(value ^ 1 << bit), bit < 32 - length ? 7 : 0);
                }
            }
        }
    }

    private static void insideAndOrder(Sentences s) {
        s.says("section 1", "A prefix lies inside another one if that one contains all of its addresses; "
                + "it lies properly inside if they are also different.");
        ForwardingTable x = with(TEN, 8, 1, TEN, 9, 2, Texts.ip(11, 0, 0, 0), 9, 3);
        s.due("route(0, 3): 10/8 lies not inside 10/9, nor inside itself", x.route(0, 3), NOT_FOUND);
        s.due("route(1, 3): 10/9 lies inside 10/8", x.route(1, 3), 0);
        s.due("route(2, 3): 11/9 lies not inside 10/8", x.route(2, 3), NOT_FOUND);
        s.due("nesting()", x.nesting(), 2);
        // 10/8 lies inside itself, so it goes; but not properly, so it does not come back.
        ForwardingTable y = with(TEN, 8, 1);
        y.packet(TEN, 1);
        y.sync(1);
        s.due("addRoute of what the hardware has", y.addRoute(TEN, 8, 2), 1);
        s.due("hardwareSize()", y.hardwareSize(), 0);
        s.due("compressed(): 10/8 has no route properly inside", y.compressed(), 1);

        s.says("section 1", "Prefixes are ordered by their values (unsigned), and with the same value by their lengths, "
                + "both ascending.");
        ForwardingTable z = with(-1, 32, 6, LEAST, 2, 5, GREATEST, 32, 4, 0, 32, 3, LEAST, 1, 2, 0, 0, 1, 0, 31, 7);
        s.due("routes", Texts.report(z, 0), "0.0.0.0/0 1\n0.0.0.0/31 7\n0.0.0.0/32 3\n127.255.255.255/32 4\n"
                + "128.0.0.0/1 2\n128.0.0.0/2 5\n255.255.255.255/32 6\n");
        ForwardingTable w = with(-1, 32, 6, 0, 32, 3, LEAST, 32, 5, GREATEST, 32, 4, 0, 31, 1, LEAST, 31, 1);
        for (int address : new int[] {-1, 0, LEAST, GREATEST, 1, LEAST + 1}) {
            w.packet(address, 1);
        }
        String order = "0.0.0.0/31 1\n0.0.0.0/32 3\n127.255.255.255/32 4\n128.0.0.0/31 1\n128.0.0.0/32 5\n"
                + "255.255.255.255/32 6\n";
        s.due("entries", Texts.report(w, 1), order);
        w.sync(6);
        s.due("hardware", Texts.report(w, 3), order);
    }

    private static void routes(Sentences s) {
        s.says("section 2", "A route has a prefix and a hop (0 to 15).");
        s.due("addRoute with the hop 0", with().addRoute(0, 0, 0), 0);
        s.due("addRoute with the hop 15", with().addRoute(0, 0, 15), 0);
        s.due("addRoute with the hop 16", with().addRoute(0, 0, 16), INVALID);
        s.due("addRoute with the hop -1", with().addRoute(0, 0, -1), INVALID);
        s.due("the hop 15", with(0, 0, 15).answer(5), 15);

        s.says("section 2", "There are at most 60 routes, all with different prefixes; they are numbered from 0 in the "
                + "order of their prefixes.");
        s.due("routes() of one prefix with two hops", with(0, 0, 1, 0, 0, 2).routes(), 1);
        ForwardingTable x = sixty();
        s.due("routes()", x.routes(), 60);
        s.due("a route no. 61", x.addRoute(1, 32, 1), ForwardingTable.FULL);
        s.due("the same prefix once more", x.addRoute(0, 32, 5), 0);
        s.due("routes()", x.routes(), 60);
        for (int i = 0; i < 60; i++) {
            s.due("route(" + i + ", 0)", x.route(i, 0), 2 * i);
        }
        x.removeRoute(0, 32);
        s.due("route(0, 0) without the first", x.route(0, 0), 2);
        s.due("route(58, 0) without the first", x.route(58, 0), 118);
        s.due("another prefix in its place", x.addRoute(-1, 32, 1), 0);
        s.due("route(59, 0)", x.route(59, 0), 4294967295L);
    }

    private static void matching(Sentences s) {
        s.says("section 2", "The matching route of an address is the one with the longest prefix that contains it.");
        ForwardingTable x = new ForwardingTable();
        for (int length = 0; length <= 32; length++) {
            x.addRoute(0, length, length % 16);
        }
        s.due("matching(0) of 33 routes", x.matching(0), 32);
        for (int bit = 0; bit < 32; bit++) {
            s.due("matching of bit " + bit, x.matching(1 << bit), 31 - bit);
        }
        s.due("matching(-1)", x.matching(-1), 0);
        s.due("answer(0)", x.answer(0), 0);
        s.due("answer(1)", x.answer(1), 15);

        s.says("section 2", "The answer for an address is the hop of its matching route, or 0 if there is none.");
        s.due("answer(0) without routes", with().answer(0), 0);
        s.due("answer(-1) without routes", with().answer(-1), 0);
        ForwardingTable y = with(TEN, 8, 5, TEN, 16, 0);
        s.due("answer beside the routes", y.answer(TEN - 1), 0);
        s.due("answer inside 10/8", y.answer(Texts.ip(10, 1, 0, 0)), 5);
        s.due("answer inside 10.0/16 with the hop 0", y.answer(TEN), 0);
    }

    private static void capacity(Sentences s) {
        s.says("promise 6", "Returns the capacity.");
        ForwardingTable x = new ForwardingTable();
        s.due("capacity() of a new table", x.capacity(), 8);
        x.setCapacity(40);
        s.due("capacity() at the most", x.capacity(), 40);
        x.setCapacity(41);
        s.due("capacity() behind a wrong one", x.capacity(), 40);
        x.setCapacity(1);
        s.due("capacity() at the least", x.capacity(), 1);
        x.undo();
        s.due("capacity() when that is undone", x.capacity(), 40);
        s.due("capacity() of a text", Texts.loaded("capacity 40;").capacity(), 40);
    }

    private static void setCapacity(Sentences s) {
        s.says("promise 7", "Sets the capacity.");
        ForwardingTable x = new ForwardingTable();
        for (int n = 1; n <= 7; n++) {
            x.setCapacity(n);
            s.due("capacity() set to " + n, x.capacity(), n);
        }

        s.says("promise 7", "If the hardware has more prefixes than there is room for then, it is cleared.");
        ForwardingTable y = Texts.loaded("capacity 3;route 1.0.0.0/8 hop 1;route 3.0.0.0/8 hop 2;route 5.0.0.0/8 hop 3;"
                + "seen 1.0.0.0 times 1;seen 3.0.0.0 times 1;seen 5.0.0.0 times 1;");
        y.sync(3);
        y.setCapacity(2);
        s.due("hardwareSize(): 3 have room with 2", y.hardwareSize(), 3);
        s.due("clearings with 2", y.count(4), 0);
        y.addRoute(Texts.ip(1, 1, 0, 0), 16, 9);
        y.setCapacity(3);
        y.setCapacity(2);
        s.due("hardwareSize(): 4 just have room with 2", y.hardwareSize(), 4);
        s.due("churn with 2", y.count(2), 4);
        s.due("setCapacity(1)", y.setCapacity(1), true);
        s.due("hardwareSize(): 4 have no room with 1", y.hardwareSize(), 0);
        s.due("churn with 1", y.count(2), 8);
        s.due("clearings with 1", y.count(4), 1);
        ForwardingTable z = new ForwardingTable();
        z.setCapacity(1);
        s.due("clearings of an empty hardware", z.count(4), 0);

        s.says("promise 7", "`n`: 1 to 40");
        for (int n : new int[] {0, 41, -1, -8, LEAST, GREATEST}) {
            s.same("setCapacity(" + n + ")", Texts::busy, t -> t.setCapacity(n) ? 1 : 0, 0);
        }
        s.due("setCapacity(1)", new ForwardingTable().setCapacity(1), true);
        s.due("setCapacity(40)", new ForwardingTable().setCapacity(40), true);

        s.says("promise 7", "Returns true; false for an invalid argument or if it is so already.");
        s.due("setCapacity(9)", new ForwardingTable().setCapacity(9), true);
        s.same("setCapacity(8) of a new table", ForwardingTable::new, t -> t.setCapacity(8) ? 1 : 0, 0);
        s.same("setCapacity(2) of a busy table", Texts::busy, t -> t.setCapacity(2) ? 1 : 0, 0);
        s.same("setCapacity(0)", ForwardingTable::new, t -> t.setCapacity(0) ? 1 : 0, 0);
    }

    private static void tellingRoutes(Sentences s) {
        s.says("promise 8", "Returns the number of routes.");
        s.due("routes() of a new table", new ForwardingTable().routes(), 0);
        ForwardingTable x = sixty();
        s.due("routes() at the most", x.routes(), 60);
        x.addRoute(1, 32, 1);
        s.due("routes() behind one that is refused", x.routes(), 60);
        x.addRoute(0, 32, 9);
        s.due("routes() behind another hop", x.routes(), 60);
        x.removeRoute(0, 32);
        s.due("routes() with one less", x.routes(), 59);

        s.says("promise 9", "`what`: 0 the value of its prefix (0 to 4294967295), 1 the length, 2 the hop, 3 the number of "
                + "the longest other route inside whose prefix its prefix lies (NOT_FOUND if there is none), 4 the number "
                + "of addresses for which it is the matching route");
        ForwardingTable y = with(0, 0, 15, -1, 32, 0);
        long[][] due = {{0, 0, 15, NOT_FOUND, (1L << 32) - 1}, {4294967295L, 32, 0, 0, 1}};
        for (int i = 0; i < 2; i++) {
            for (int what = 0; what < 5; what++) {
                s.due("route(" + i + ", " + what + ")", y.route(i, what), due[i][what]);
            }
        }
        s.due("route(0, 4) of all addresses", with(0, 0, 1).route(0, 4), 4294967296L);
        ForwardingTable z = with(0, 0, 1, 0, 1, 1, LEAST, 1, 1, LEAST, 2, 1, LEAST, 8, 1);
        s.due("route(0, 4) of none", z.route(0, 4), 0);
        s.due("route(4, 3): the longest of three around", z.route(4, 3), 3);
        s.due("route(2, 3): not the one beside", z.route(2, 3), 0);
        s.due("route(0, 4) on both sides of another one", with(0, 0, 1, TEN, 8, 1).route(0, 4), (1L << 32) - (1 << 24));
        s.due("route(3, 4) without those of the one inside", z.route(3, 4), (1 << 30) - (1 << 24));

        s.says("promise 9", "`i`: number of a route");
        s.due("route(0, 0), the first of sixty", sixty().route(0, 0), 0);
        s.due("route(59, 0), the last of sixty", sixty().route(59, 0), 118);
    }

    private static void wrongRouteNumbers(Sentences s) {
        s.says("promise 9", "NOT_FOUND if there is no such route;");
        for (int what = 0; what < 5; what++) {
            s.due("route(0, " + what + ") of a new table", new ForwardingTable().route(0, what), NOT_FOUND);
            s.due("route(1, " + what + ") of one", with(TEN, 8, 1).route(1, what), NOT_FOUND);
            s.due("route(60, " + what + ") of sixty", sixty().route(60, what), NOT_FOUND);
            s.due("route(greatest int, " + what + ")", sixty().route(GREATEST, what), NOT_FOUND);
        }

        s.says("promise 9", "INVALID for a negative i or any other what.");
        s.invalid("route(-1, 0)", t -> t.route(-1, 0));
        s.invalid("route(-1, 4)", t -> t.route(-1, 4));
        s.invalid("route(least int, 3)", t -> t.route(LEAST, 3));
        s.invalid("route(0, -1)", t -> t.route(0, -1));
        s.invalid("route(0, 5)", t -> t.route(0, 5));
        s.invalid("route(99, 5)", t -> t.route(99, 5));
        s.invalid("route(0, least int)", t -> t.route(0, LEAST));
        s.invalid("route(0, greatest int)", t -> t.route(0, GREATEST));
    }

    private static void addRoute(Sentences s) {
        s.says("promise 10", "Adds a route, or changes the hop of the route with this prefix.");
        ForwardingTable x = with(TEN, 8, 1);
        x.addRoute(TEN, 8, 2);
        s.due("routes() behind another hop", x.routes(), 1);
        s.due("route(0, 2) behind another hop", x.route(0, 2), 2);
        x.addRoute(TEN, 9, 3);
        s.due("routes() behind another length", x.routes(), 2);
        s.due("route(0, 2) stays", x.route(0, 2), 2);
        s.due("routes that came or got another hop", x.count(3), 3);
        s.due("routes(), the longer one first", with(TEN, 9, 3, TEN, 8, 3).routes(), 2);

        s.says("promise 10", "`value`: the value of the prefix");
        s.due("route(0, 0) of -1", with(-1, 32, 1).route(0, 0), 4294967295L);
        s.due("route(0, 0) of 0", with(0, 32, 1).route(0, 0), 0);
        s.due("route(0, 0) of the least int", with(LEAST, 1, 1).route(0, 0), 2147483648L);

        s.says("promise 10", "`length`: its length, 0 to 32");
        s.due("route(0, 1) of 0", with(0, 0, 1).route(0, 1), 0);
        s.due("route(0, 1) of 32", with(0, 32, 1).route(0, 1), 32);
        s.invalid("addRoute(0, -1, 1)", t -> t.addRoute(0, -1, 1));
        s.invalid("addRoute(0, 33, 1)", t -> t.addRoute(0, 33, 1));
        s.invalid("addRoute(0, 64, 1)", t -> t.addRoute(0, 64, 1));
        s.invalid("addRoute(0, least int, 1)", t -> t.addRoute(0, LEAST, 1));
        s.invalid("addRoute(0, greatest int, 1)", t -> t.addRoute(0, GREATEST, 1));

        s.says("promise 10", "`hop`: 0 to 15");
        s.due("route(0, 2) of 0", with(TEN, 8, 0).route(0, 2), 0);
        s.due("route(0, 2) of 15", with(TEN, 8, 15).route(0, 2), 15);
        s.invalid("addRoute(0, 0, -1)", t -> t.addRoute(0, 0, -1));
        s.invalid("addRoute(0, 0, 16)", t -> t.addRoute(0, 0, 16));
        s.invalid("addRoute(0, 0, least int)", t -> t.addRoute(0, 0, LEAST));
        s.invalid("addRoute(10/8, 16), which is there", t -> t.addRoute(TEN, 8, 16));

        s.says("promise 10", "Returns by how much the churn has increased;");
        s.due("addRoute with an empty hardware", with().addRoute(0, 0, 1), 0);
        s.due("addRoute beside the hardware", synced().addRoute(Texts.ip(11, 0, 0, 0), 8, 1), 0);
        s.due("addRoute inside: an exception comes", synced().addRoute(Texts.ip(10, 2, 0, 0), 16, 1), 1);
        s.due("addRoute around: two go", synced().addRoute(0, 0, 1), 2);
        s.due("addRoute in the hardware: it goes, and its exception comes", synced().addRoute(Texts.ip(10, 1, 0, 0), 16, 7), 2);
        ForwardingTable y = synced();
        y.addRoute(Texts.ip(10, 2, 0, 0), 16, 1);
        y.addRoute(Texts.ip(10, 3, 0, 0), 16, 1);
        s.due("addRoute without room: four go", y.addRoute(Texts.ip(10, 4, 0, 0), 16, 1), 4);
        s.due("churn of all", y.count(2), 8);
    }

    /** 10/8 and 10.1/16 are in the hardware, which has room for four. */
    private static ForwardingTable synced() {
        ForwardingTable x = Texts.loaded("capacity 2;route 10.0.0.0/8 hop 1;route 10.1.0.0/16 hop 2;"
                + "seen 10.0.0.1 times 5;seen 10.1.0.1 times 5;");
        x.sync(2);
        return x;
    }

    private static void addRouteRefused(Sentences s) {
        s.says("promise 10", "INVALID for an invalid argument, also if value has a bit 1 behind its first bits of that number;");
        s.invalid("addRoute(1, 0, 1)", t -> t.addRoute(1, 0, 1));
        s.invalid("addRoute(least int, 0, 1)", t -> t.addRoute(LEAST, 0, 1));
        s.invalid("addRoute(-1, 31, 1)", t -> t.addRoute(-1, 31, 1));
        s.invalid("addRoute(1, 31, 1)", t -> t.addRoute(1, 31, 1));
        s.invalid("addRoute(0x40000000, 1, 1)", t -> t.addRoute(0x40000000, 1, 1));
        s.invalid("addRoute(10.0.0.1, 8, 1)", t -> t.addRoute(TEN + 1, 8, 1));
        s.invalid("addRoute(10.0.0.0, 6, 1)", t -> t.addRoute(TEN, 6, 1));
        s.due("addRoute(10.0.0.0, 7, 1)", with().addRoute(TEN, 7, 1), 0);
        s.due("addRoute(-2, 31, 1)", with().addRoute(-2, 31, 1), 0);

        s.says("promise 10", "NOT_FOUND if the route is so already;");
        s.same("addRoute of one that is so", Texts::busy, t -> t.addRoute(TEN, 8, 1), NOT_FOUND);
        s.same("addRoute of one of sixty that is so", Texts::full, t -> t.addRoute(TEN, 32, 1), NOT_FOUND);
        s.due("the same with another hop", Texts.busy().addRoute(TEN, 8, 2) >= 0, true);
        s.due("the same with another length", Texts.busy().addRoute(TEN, 9, 1) >= 0, true);

        s.says("promise 10", "FULL if there is no such route yet, and there are 60.");
        s.same("addRoute no. 61", Texts::full, t -> t.addRoute(TEN, 31, 1), ForwardingTable.FULL);
        s.same("addRoute no. 61 of all addresses", Texts::full, t -> t.addRoute(0, 0, 0), ForwardingTable.FULL);
        s.due("another hop with sixty", Texts.full().addRoute(TEN, 32, 2), 0);
        ForwardingTable x = sixty();
        x.removeRoute(0, 32);
        s.due("addRoute no. 60", x.addRoute(1, 32, 1), 0);
        s.due("addRoute no. 61", x.addRoute(0, 32, 1), ForwardingTable.FULL);
    }

    private static void removeRoute(Sentences s) {
        s.says("promise 11", "Removes a route.");
        ForwardingTable x = with(0, 0, 4, -1, 32, 5);
        x.removeRoute(0, 0);
        s.due("routes()", x.routes(), 1);
        s.due("answer(0)", x.answer(0), 0);
        s.due("answer(-1)", x.answer(-1), 5);
        x.removeRoute(-1, 32);
        s.due("routes() of none left", x.routes(), 0);
        s.due("routes that came or went", x.count(3), 4);

        s.says("promise 11", "`value`: the value of its prefix");
        s.due("removeRoute(-1, 32)", with(-1, 32, 1).removeRoute(-1, 32), 0);
        s.due("removeRoute(-2, 32) of -1", with(-1, 32, 1).removeRoute(-2, 32), NOT_FOUND);

        s.says("promise 11", "`length`: its length, 0 to 32");
        s.due("removeRoute(0, 0)", with(0, 0, 1).removeRoute(0, 0), 0);
        s.due("removeRoute(0, 32)", with(0, 32, 1).removeRoute(0, 32), 0);
        s.invalid("removeRoute(0, -1)", t -> t.removeRoute(0, -1));
        s.invalid("removeRoute(0, 33)", t -> t.removeRoute(0, 33));
        s.invalid("removeRoute(0, 64)", t -> t.removeRoute(0, 64));
        s.invalid("removeRoute(0, least int)", t -> t.removeRoute(0, LEAST));

        s.says("promise 11", "Returns by how much the churn has increased;");
        s.due("removeRoute with an empty hardware", with(0, 0, 1).removeRoute(0, 0), 0);
        s.due("removeRoute of the inner one: it goes, an exception comes", synced().removeRoute(Texts.ip(10, 1, 0, 0), 16), 2);
        s.due("removeRoute of the outer one: both go", synced().removeRoute(TEN, 8), 2);

        s.says("promise 11", "INVALID as for addRoute();");
        s.invalid("removeRoute(1, 0)", t -> t.removeRoute(1, 0));
        s.invalid("removeRoute(10.0.0.0, 6)", t -> t.removeRoute(TEN, 6));
        s.invalid("removeRoute(-1, 31)", t -> t.removeRoute(-1, 31));
        s.invalid("removeRoute(greatest int, greatest int)", t -> t.removeRoute(GREATEST, GREATEST));

        s.says("promise 11", "NOT_FOUND if there is no such route.");
        s.same("removeRoute of a new table", ForwardingTable::new, t -> t.removeRoute(0, 0), NOT_FOUND);
        s.same("removeRoute with another length", Texts::busy, t -> t.removeRoute(TEN, 9), NOT_FOUND);
        s.same("removeRoute with another value", Texts::busy, t -> t.removeRoute(Texts.ip(11, 0, 0, 0), 8), NOT_FOUND);
        s.same("removeRoute beside sixty", Texts::full, t -> t.removeRoute(-1, 32), NOT_FOUND);
    }

    private static void answerAndMatching(Sentences s) {
        ForwardingTable x = with(0, 32, 1, LEAST, 1, 2, -1, 32, 3);
        s.says("promise 12", "`address`: an address");
        s.due("answer(0)", x.answer(0), 1);
        s.due("answer(1)", x.answer(1), 0);
        s.due("answer(greatest int)", x.answer(GREATEST), 0);
        s.due("answer(least int)", x.answer(LEAST), 2);
        s.due("answer(-1)", x.answer(-1), 3);

        s.says("promise 12", "Returns the answer for it.");
        s.due("answer(0) of a new table", new ForwardingTable().answer(0), 0);
        s.due("answer(-2)", x.answer(-2), 2);
        s.due("answer(59.0.0.0) of sixty", Texts.full().answer(Texts.ip(59, 0, 0, 0)), 1);
        s.due("answer(60.0.0.0) of sixty", Texts.full().answer(Texts.ip(60, 0, 0, 0)), 0);

        s.says("promise 13", "`address`: an address");
        s.due("matching(0)", x.matching(0), 0);
        s.due("matching(least int)", x.matching(LEAST), 1);
        s.due("matching(-1)", x.matching(-1), 2);

        s.says("promise 13", "Returns the number of its matching route;");
        s.due("matching of the last of sixty", sixty().matching(118), 59);
        s.due("matching of the first of sixty", sixty().matching(0), 0);

        s.says("promise 13", "NOT_FOUND if there is none.");
        s.due("matching(0) of a new table", new ForwardingTable().matching(0), NOT_FOUND);
        s.due("matching(-1) of a new table", new ForwardingTable().matching(-1), NOT_FOUND);
        s.due("matching(1)", x.matching(1), NOT_FOUND);
        s.due("matching(greatest int)", x.matching(GREATEST), NOT_FOUND);
        s.due("matching(0) with a route for all", with(0, 0, 0).matching(5), 0);
    }
}
