/** The sentences of promises 38 and 40 to 44: counting addresses, runs, redundant routes, nesting. */
final class AddressSentences {
    private static final int INVALID = ForwardingTable.INVALID;
    private static final int NOT_FOUND = ForwardingTable.NOT_FOUND;
    private static final int LEAST = Integer.MIN_VALUE;
    private static final int GREATEST = Integer.MAX_VALUE;
    private static final long ALL = 1L << 32;
    private static final int TEN = Texts.ip(10, 0, 0, 0);

    private AddressSentences() {
    }

    static void tests(Sentences s) {
        s.run(AddressSentences::addresses);
        s.run(AddressSentences::nextOther);
        s.run(AddressSentences::runs);
        s.run(AddressSentences::redundant);
        s.run(AddressSentences::nesting);
    }

    private static ForwardingTable with(int... routes) {
        ForwardingTable x = new ForwardingTable();
        for (int i = 0; i < routes.length; i += 3) {
            x.addRoute(routes[i], routes[i + 1], routes[i + 2]);
        }
        return x;
    }

    private static void addresses(Sentences s) {
        s.says("promise 38", "`hop`: 0 to 15");
        s.due("addresses(0)", with(LEAST, 1, 15).addresses(0), 1L << 31);
        s.due("addresses(15)", with(LEAST, 1, 15).addresses(15), 1L << 31);
        s.due("addresses(14)", with(LEAST, 1, 15).addresses(14), 0);

        s.says("promise 38", "Returns the number of addresses whose answer it is;");
        s.due("addresses(0) of a new table", new ForwardingTable().addresses(0), ALL);
        s.due("addresses(1) of a new table", new ForwardingTable().addresses(1), 0);
        s.due("addresses(7) of all", with(0, 0, 7).addresses(7), ALL);
        s.due("addresses(0) of none", with(0, 0, 7).addresses(0), 0);
        ForwardingTable x = with(0, 0, 7, 0, 32, 3, -1, 32, 3, TEN, 8, 0, TEN, 32, 3);
        s.due("addresses(3) of three", x.addresses(3), 3);
        s.due("addresses(0) of 10/8 but one", x.addresses(0), (1 << 24) - 1);
        s.due("addresses(7) of the others", x.addresses(7), ALL - 2 - (1 << 24));
        s.due("addresses(1) of sixty", Texts.full().addresses(1), 60);
        s.due("addresses(0) beside sixty", Texts.full().addresses(0), ALL - 60);

        s.says("promise 38", "INVALID for an invalid argument.");
        for (int hop : new int[] {-1, 16, LEAST, GREATEST}) {
            s.invalid("addresses(" + hop + ")", t -> t.addresses(hop));
        }
        s.due("INVALID", x.addresses(17), INVALID);
    }

    private static void nextOther(Sentences s) {
        ForwardingTable x = with(TEN, 8, 1, Texts.ip(11, 0, 0, 0), 8, 1, Texts.ip(10, 1, 0, 0), 16, 1, LEAST, 1, 2, -1, 32, 3);
        s.says("promise 40", "Finds the first address above an address (unsigned) whose answer is another one than that of this "
                + "address.");
        s.due("nextOther just below 10/8", x.nextOther(TEN - 1), TEN);
        s.due("nextOther of the first of 10/8: 11/8 has the same answer", x.nextOther(TEN), Texts.ip(12, 0, 0, 0));
        s.due("nextOther of the last of 11/8", x.nextOther(Texts.ip(11, 255, 255, 255)), Texts.ip(12, 0, 0, 0));
        s.due("nextOther of 12.0.0.0", x.nextOther(Texts.ip(12, 0, 0, 0)), 2147483648L);
        // Another one may have an answer between that is the same again.
        s.due("nextOther over two runs", with(TEN, 8, 1).nextOther(0), TEN);

        s.says("promise 40", "`address`: an address");
        s.due("nextOther(0)", x.nextOther(0), TEN);
        s.due("nextOther(greatest int)", x.nextOther(GREATEST), 2147483648L);
        s.due("nextOther(least int)", x.nextOther(LEAST), 4294967295L);
        s.due("nextOther(-2)", x.nextOther(-2), 4294967295L);

        s.says("promise 40", "Returns that address (1 to 4294967295);");
        s.due("nextOther(0), at the least", with(0, 32, 1).nextOther(0), 1);
        s.due("nextOther(0), at the most", with(-1, 32, 1).nextOther(0), 4294967295L);
        s.due("nextOther(0) with a hop from the first address on", with(0, 0, 1, LEAST, 1, 0).nextOther(0), 2147483648L);

        s.says("promise 40", "NOT_FOUND if there is none.");
        s.due("nextOther(0) of a new table", new ForwardingTable().nextOther(0), NOT_FOUND);
        s.due("nextOther(0) with a route for all", with(0, 0, 5).nextOther(0), NOT_FOUND);
        s.due("nextOther(-1)", x.nextOther(-1), NOT_FOUND);
        ForwardingTable shorter = with(LEAST, 1, 5);
        s.due("nextOther(0)", shorter.nextOther(0), 2147483648L);
        shorter.removeRoute(LEAST, 1);
        s.due("nextOther(0) when the route went", shorter.nextOther(0), NOT_FOUND);
        s.due("nextOther in the last run", with(LEAST, 1, 5).nextOther(LEAST), NOT_FOUND);
        s.due("nextOther behind the only one", with(0, 32, 1).nextOther(1), NOT_FOUND);
        // Above the greatest address there is none: it does not go on with 0.
        s.due("nextOther(-1) does not wrap around", with(0, 1, 5).nextOther(-1), NOT_FOUND);
    }

    private static void runs(Sentences s) {
        s.says("promise 41", "Returns the number of runs of addresses with the same answer, that is, 1 plus the number of "
                + "addresses above 0 whose answer is another one than that of the address before.");
        s.due("runs() of a new table", new ForwardingTable().runs(), 1);
        s.due("runs() with a route for all", with(0, 0, 5).runs(), 1);
        s.due("runs() with the first address", with(0, 32, 1).runs(), 2);
        s.due("runs() with the last address", with(-1, 32, 1).runs(), 2);
        // The first and the last address have the same answer, but no run wraps around.
        s.due("runs() with one between", with(TEN, 8, 1).runs(), 3);
        s.due("runs() with both ends", with(0, 32, 1, -1, 32, 1).runs(), 3);
        s.due("runs() with routes that have the hop 0", with(TEN, 8, 0).runs(), 1);
        s.due("runs() with two beside each other", with(TEN, 8, 1, Texts.ip(11, 0, 0, 0), 8, 1).runs(), 3);
        s.due("runs() with two others beside each other", with(TEN, 8, 1, Texts.ip(11, 0, 0, 0), 8, 2).runs(), 4);
        s.due("runs() of sixty, at the most", Texts.full().runs(), 120);
        ForwardingTable x = new ForwardingTable();
        for (int i = 0; i < 60; i++) {
            x.addRoute(2 * i + 1, 32, 1);
        }
        s.due("runs() of sixty, none at the first address", x.runs(), 121);
    }

    private static void redundant(Sentences s) {
        s.says("promise 42", "Tells whether a route is redundant, that is, whether no answer would change without it.");
        ForwardingTable x = with(TEN, 8, 1, TEN, 9, 1, Texts.ip(10, 128, 0, 0), 9, 2, Texts.ip(20, 0, 0, 0), 8, 0,
                Texts.ip(30, 0, 0, 0), 8, 3);
        s.due("isRedundant(0): it matches no address", x.isRedundant(0), true);
        s.due("isRedundant(1): it says what is around it", x.isRedundant(1), true);
        s.due("isRedundant(2)", x.isRedundant(2), false);
        s.due("isRedundant(3): the hop 0, as without a route", x.isRedundant(3), true);
        s.due("isRedundant(4)", x.isRedundant(4), false);
        s.due("isRedundant(0) of all addresses", with(0, 0, 5).isRedundant(0), false);
        s.due("isRedundant(0) of all addresses with the hop 0", with(0, 0, 0).isRedundant(0), true);
        s.due("isRedundant(0) of one address", with(-1, 32, 1).isRedundant(0), false);

        s.says("promise 42", "`i`: number of a route");
        s.due("isRedundant(59) of sixty", Texts.full().isRedundant(59), false);
        ForwardingTable y = Texts.full();
        y.addRoute(Texts.ip(59, 0, 0, 0), 32, 0);
        s.due("isRedundant(59) of sixty with the hop 0", y.isRedundant(59), true);
        s.due("isRedundant(0) of sixty", y.isRedundant(0), false);

        s.says("promise 42", "Returns true if it is; false otherwise, also if there is no such route.");
        s.due("isRedundant(0) of a new table", new ForwardingTable().isRedundant(0), false);
        ForwardingTable z = with(0, 0, 0);
        s.due("isRedundant(0)", z.isRedundant(0), true);
        s.due("isRedundant(1) of one", z.isRedundant(1), false);
        s.due("isRedundant(60) of sixty", Texts.full().isRedundant(60), false);
        for (int i : new int[] {-1, LEAST, GREATEST}) {
            s.same("isRedundant(" + i + ") of a new table", ForwardingTable::new, t -> t.isRedundant(i) ? 1 : 0, 0);
            s.same("isRedundant(" + i + ") of a busy table", Texts::busy, t -> t.isRedundant(i) ? 1 : 0, 0);
            s.same("isRedundant(" + i + ") of a full table", Texts::full, t -> t.isRedundant(i) ? 1 : 0, 0);
        }

        s.says("promise 43", "Returns the number of redundant routes (each by itself).");
        s.due("redundant() of a new table", new ForwardingTable().redundant(), 0);
        s.due("redundant() of three", x.redundant(), 3);
        s.due("redundant() of none of one, as the first question", with(TEN, 8, 1).redundant(), 0);
        // Each of the two halves and the whole is redundant by itself, but not all three are.
        s.due("redundant(), each by itself", with(TEN, 8, 1, TEN, 9, 1, Texts.ip(10, 128, 0, 0), 9, 1).redundant(), 3);
        ForwardingTable w = new ForwardingTable();
        for (int i = 0; i < 60; i++) {
            w.addRoute(i, 32, 0);
        }
        s.due("redundant() of sixty", w.redundant(), 60);
        s.due("redundant() of none of sixty", Texts.full().redundant(), 0);
    }

    private static void nesting(Sentences s) {
        s.says("promise 44", "Returns the greatest number of routes each of which lies properly inside the next one.");
        s.due("nesting() of a new table", new ForwardingTable().nesting(), 0);
        s.due("nesting() of one", with(TEN, 8, 1).nesting(), 1);
        s.due("nesting() of sixty beside each other", Texts.full().nesting(), 1);
        s.due("nesting() of two", with(TEN, 8, 1, TEN, 9, 1).nesting(), 2);
        s.due("nesting() of two and one beside", with(TEN, 8, 1, TEN, 9, 1, Texts.ip(10, 128, 0, 0), 9, 1).nesting(), 2);
        s.due("nesting() of the first ones", with(TEN, 8, 1, TEN, 9, 1, Texts.ip(99, 0, 0, 0), 8, 1).nesting(), 2);
        s.due("nesting() of the last ones", with(0, 32, 1, -1, 32, 1, -2, 31, 1, -4, 30, 1).nesting(), 3);
        ForwardingTable x = new ForwardingTable();
        for (int length = 0; length <= 32; length++) {
            x.addRoute(length == 0 ? 0 : -1 << (32 - length), length, 1);
        }
        s.due("nesting() at the most", x.nesting(), 33);
        x.removeRoute(0, 0);
        s.due("nesting() without the outermost", x.nesting(), 32);
    }
}
