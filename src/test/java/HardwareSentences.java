/** The sentences of section 6 and of promises 29 to 33, 35 to 37 and 39: the hardware. */
final class HardwareSentences {
    private static final int INVALID = ForwardingTable.INVALID;
    private static final int NOT_FOUND = ForwardingTable.NOT_FOUND;
    private static final int EXCEPTION = ForwardingTable.EXCEPTION;
    private static final int LEAST = Integer.MIN_VALUE;
    private static final int GREATEST = Integer.MAX_VALUE;
    private static final int TEN = Texts.ip(10, 0, 0, 0);
    private static final int TEN_ONE = Texts.ip(10, 1, 0, 0);
    private static final int TEN_TWO = Texts.ip(10, 2, 0, 0);

    private HardwareSentences() {
    }

    static void tests(Sentences s) {
        s.run(HardwareSentences::actions);
        s.run(HardwareSentences::neverWrong);
        s.run(HardwareSentences::room);
        s.run(HardwareSentences::routeChanges);
        s.run(HardwareSentences::exceptions);
        s.run(HardwareSentences::clearingAndChurn);
        s.run(HardwareSentences::clearedFirst);
        s.run(HardwareSentences::limit);
        s.run(HardwareSentences::order);
        s.run(HardwareSentences::telling);
        s.run(HardwareSentences::action);
        s.run(HardwareSentences::changes);
        s.run(HardwareSentences::wrongChangeNumbers);
        s.run(HardwareSentences::missedAfter);
        s.run(HardwareSentences::sync);
        s.run(HardwareSentences::syncRefused);
        s.run(HardwareSentences::clear);
        s.run(HardwareSentences::hardwareAddresses);
    }

    /** 10/8 and 10.1/16 are in the hardware, which has room for four. */
    private static ForwardingTable two() {
        ForwardingTable x = Texts.loaded("capacity 2;route 10.0.0.0/8 hop 1;route 10.1.0.0/16 hop 2;"
                + "seen 10.0.0.1 times 5;seen 10.1.0.1 times 5;");
        x.sync(2);
        return x;
    }

    /** The same with two exceptions: without room. */
    private static ForwardingTable four() {
        ForwardingTable x = two();
        x.addRoute(TEN_TWO, 16, 3);
        x.addRoute(Texts.ip(10, 3, 0, 0), 16, 3);
        return x;
    }

    private static final String BESIDE = "route 1.0.0.0/8 hop 1;route 3.0.0.0/16 hop 2;route 5.0.0.0/8 hop 3;"
            + "route 7.0.0.0/16 hop 4;";

    /** Two of four entries are in the hardware, and the other two are the target. */
    private static ForwardingTable turned() {
        ForwardingTable x = Texts.loaded("capacity 2;" + BESIDE + "seen 1.0.0.0 times 5;seen 3.0.0.0 times 5;");
        x.sync(2);
        x.packet(Texts.ip(5, 0, 0, 0), 9);
        x.packet(Texts.ip(7, 0, 0, 0), 9);
        return x;
    }

    /** Three are in the hardware, and with the target there are five, one more than there is room for. */
    private static ForwardingTable turnedWithoutRoom() {
        ForwardingTable x = turned();
        x.addRoute(Texts.ip(1, 1, 0, 0), 16, 9);
        return x;
    }

    private static String changesOf(ForwardingTable x) {
        StringBuilder text = new StringBuilder();
        int n = x.changes();
        for (int i = 0; i < n; i++) {
            text.append(Model.dotted(x.change(i, 0))).append('/').append(x.change(i, 1)).append(' ')
                    .append(x.change(i, 2)).append(' ').append(x.change(i, 3)).append('\n');
        }
        return text.toString();
    }

    private static void actions(Sentences s) {
        s.says("section 6", "The hardware is a set of prefixes, each with an action, which is a hop or EXCEPTION.");
        ForwardingTable x = Texts.loaded("capacity 2;route 0.0.0.0/0 hop 15;route 10.0.0.0/8 hop 0;"
                + "seen 0.0.0.0 times 1;seen 10.0.0.0 times 1;");
        x.sync(2);
        x.addRoute(TEN_ONE, 16, 3);
        s.due("hardware", Texts.report(x, 3), "0.0.0.0/0 15\n10.0.0.0/8 0\n10.1.0.0/16 x\n");
        s.due("hardware(2, 2)", x.hardware(2, 2), EXCEPTION);
        // A set: a prefix that is in it already comes in no second time.
        x.addRoute(TEN_ONE, 16, 4);
        s.due("hardwareSize()", x.hardwareSize(), 3);

        s.says("section 6", "For an address, the longest of these prefixes that contains it counts: if there is one and its "
                + "action is a hop, the hardware answers with this hop; otherwise the software answers (with the answer of "
                + "section 2).");
        s.due("action(0)", x.action(0), 15);
        s.due("packet(0, 1)", x.packet(0, 1), 1);
        s.due("action(-1)", x.action(-1), 15);
        s.due("action of 10/8, with the hop 0", x.action(TEN), 0);
        s.due("packet for the hop 0", x.packet(TEN, 1), 1);
        s.due("action of the exception", x.action(TEN_ONE), EXCEPTION);
        s.due("packet for the exception", x.packet(TEN_ONE, 1), 0);
        s.due("answer for the exception", x.answer(TEN_ONE), 4);
        s.due("action without a prefix", two().action(0), NOT_FOUND);
        s.due("packet without a prefix", two().packet(0, 1), 0);
        s.due("packet of a new table", new ForwardingTable().packet(0, 1), 0);
    }

    /** The hardware has the right hop, or none, for an address. */
    private static boolean isRight(ForwardingTable x, int address) {
        int action = x.action(address);
        return action == NOT_FOUND || action == EXCEPTION || action == x.answer(address);
    }

    private static void neverWrong(Sentences s) {
        s.says("What it is", "The hardware is brought to this target in limited steps, and at no time does it give a wrong "
                + "answer.");
        ForwardingTable x = Texts.loaded("capacity 4;route 10.0.0.0/8 hop 1;route 10.1.0.0/16 hop 2;route 10.1.2.0/24 hop 3;"
                + "route 10.2.0.0/16 hop 4;seen 10.0.0.1 times 9;seen 10.1.0.1 times 9;seen 10.1.2.1 times 9;"
                + "seen 10.2.0.0 times 9;");
        int[] addresses = {TEN, TEN_ONE, Texts.ip(10, 1, 2, 0), TEN_TWO, Texts.ip(10, 1, 3, 0), Texts.ip(11, 0, 0, 0)};
        for (int step = 0; step < 24; step++) {
            if (step == 5) {
                x.addRoute(TEN_ONE, 16, 1);
            } else if (step == 9) {
                x.removeRoute(TEN, 8);
            } else if (step == 13) {
                x.setCapacity(2);
            } else if (step == 16) {
                x.addRoute(0, 0, 7);
                x.packet(0, 99);
            } else {
                x.sync(1);
            }
            for (int address : addresses) {
                s.due("step " + step + " is right for " + Model.dotted(address), isRight(x, address), true);
            }
        }
    }

    private static void room(Sentences s) {
        s.says("section 6", "There is room for twice as many prefixes as the capacity.");
        ForwardingTable x = two();
        x.addRoute(TEN_TWO, 16, 3);
        s.due("hardwareSize() of three", x.hardwareSize(), 3);
        x.addRoute(Texts.ip(10, 3, 0, 0), 16, 3);
        s.due("hardwareSize() of four, as many as there is room for", x.hardwareSize(), 4);
        s.due("clearings", x.count(4), 0);
        x.addRoute(Texts.ip(10, 4, 0, 0), 16, 3);
        s.due("hardwareSize(): for a fifth there is no room", x.hardwareSize(), 0);
        s.due("clearings", x.count(4), 1);
        // The most that there is room for: eighty prefixes, with the capacity 40.
        ForwardingTable y = eighty();
        s.due("hardwareSize() of eighty", y.hardwareSize(), 80);
        y.addRoute(80, 32, 2);
        s.due("hardwareSize(): for one more there is no room", y.hardwareSize(), 0);
    }

    /** As many prefixes as there can be: one and 79 exceptions. */
    private static ForwardingTable eighty() {
        ForwardingTable x = Texts.loaded("capacity 40;route 0.0.0.0/0 hop 1;seen 0.0.0.0 times 1;");
        x.sync(1);
        for (int i = 1; i < 80; i++) {
            x.addRoute(i, 32, 2);
            x.removeRoute(i, 32);
        }
        return x;
    }

    private static void routeChanges(Sentences s) {
        s.says("section 6", "When a route with the prefix P comes, goes or gets another hop, all prefixes inside P are removed "
                + "from the hardware.");
        ForwardingTable comes = two();
        comes.addRoute(Texts.ip(8, 0, 0, 0), 5, 9);
        s.due("hardwareSize() when one around comes", comes.hardwareSize(), 0);
        ForwardingTable all = two();
        all.addRoute(0, 0, 9);
        s.due("hardwareSize() when one around all comes", all.hardwareSize(), 0);
        ForwardingTable goes = two();
        goes.removeRoute(TEN, 8);
        s.due("hardwareSize() when one goes", goes.hardwareSize(), 0);
        ForwardingTable changes = two();
        changes.addRoute(TEN, 8, 9);
        s.due("hardwareSize() when one gets another hop", changes.hardwareSize(), 0);
        ForwardingTable between = two();
        between.addRoute(TEN, 9, 9);
        s.due("hardware when one between comes", Texts.report(between, 3), "10.0.0.0/8 1\n10.0.0.0/9 x\n");
        ForwardingTable zero = Texts.loaded("capacity 2;route 0.0.0.0/0 hop 15;route 10.0.0.0/8 hop 0;"
                + "seen 0.0.0.0 times 1;seen 10.0.0.0 times 1;");
        zero.sync(2);
        zero.addRoute(TEN, 7, 9);
        s.due("hardware when one around the hop 0 comes", Texts.report(zero, 3), "0.0.0.0/0 15\n10.0.0.0/7 x\n");
        ForwardingTable beside = two();
        beside.addRoute(Texts.ip(11, 0, 0, 0), 8, 9);
        beside.addRoute(Texts.ip(9, 0, 0, 0), 8, 9);
        s.due("hardwareSize() when those beside come", beside.hardwareSize(), 2);
        ForwardingTable refused = two();
        refused.addRoute(TEN, 8, 1);
        s.due("hardwareSize() when one is so already", refused.hardwareSize(), 2);
        ForwardingTable nowhere = four();
        nowhere.addRoute(TEN, 14, 9);
        s.due("hardware when one around three comes", Texts.report(nowhere, 3), "10.0.0.0/8 1\n10.0.0.0/14 x\n");
    }

    private static void exceptions(Sentences s) {
        s.says("section 6", "If then some prefix of the hardware properly contains P, P is put in with the action EXCEPTION "
                + "(for this there must be room; if there is none, the hardware is cleared).");
        ForwardingTable x = two();
        x.addRoute(TEN_TWO, 16, 3);
        s.due("hardware with an exception", Texts.report(x, 3), "10.0.0.0/8 1\n10.1.0.0/16 2\n10.2.0.0/16 x\n");
        ForwardingTable own = two();
        own.addRoute(TEN_ONE, 16, 3);
        s.due("hardware: P was in it", Texts.report(own, 3), "10.0.0.0/8 1\n10.1.0.0/16 x\n");
        ForwardingTable goes = two();
        goes.removeRoute(TEN_ONE, 16);
        s.due("hardware: the route of P went", Texts.report(goes, 3), "10.0.0.0/8 1\n10.1.0.0/16 x\n");
        ForwardingTable last = two();
        last.addRoute(Texts.ip(10, 255, 255, 255), 32, 3);
        s.due("hardware: the last address of 10/8", Texts.report(last, 3),
                "10.0.0.0/8 1\n10.1.0.0/16 2\n10.255.255.255/32 x\n");
        ForwardingTable equal = Texts.loaded("capacity 2;route 10.0.0.0/8 hop 1;seen 10.0.0.0 times 1;");
        equal.sync(1);
        equal.addRoute(TEN, 8, 2);
        s.due("hardwareSize(): P contains itself, but not properly", equal.hardwareSize(), 0);
        // An exception around P counts, too.
        ForwardingTable around = four();
        s.due("hardwareSize() of four", around.hardwareSize(), 4);
        s.due("addRoute where the room comes from P itself", around.addRoute(TEN_TWO, 16, 5), 2);
        s.due("hardwareSize() of four", around.hardwareSize(), 4);
        s.due("addRoute without room, in an exception", around.addRoute(Texts.ip(10, 2, 1, 0), 24, 5), 4);
        s.due("hardwareSize() of none", around.hardwareSize(), 0);
        s.due("clearings", around.count(4), 1);
        ForwardingTable beside = four();
        s.due("addRoute without room, beside all", beside.addRoute(Texts.ip(11, 0, 0, 0), 8, 5), 0);
        s.due("hardwareSize() of four", beside.hardwareSize(), 4);
        ForwardingTable removed = four();
        removed.setCapacity(3);
        removed.addRoute(Texts.ip(10, 4, 0, 0), 16, 3);
        removed.addRoute(Texts.ip(10, 5, 0, 0), 16, 3);
        s.due("hardwareSize() of six", removed.hardwareSize(), 6);
        s.due("addRoute around two: room for it", removed.addRoute(Texts.ip(10, 4, 0, 0), 15, 5), 3);
        s.due("hardwareSize() of five", removed.hardwareSize(), 5);
    }

    private static void clearingAndChurn(Sentences s) {
        s.says("section 6", "Clearing removes all prefixes.");
        ForwardingTable x = four();
        x.clear();
        s.due("hardwareSize() behind clear()", x.hardwareSize(), 0);
        s.due("hardware(0, 0)", x.hardware(0, 0), NOT_FOUND);
        s.due("action", x.action(TEN), NOT_FOUND);
        s.due("routes() stay", x.routes(), 4);
        ForwardingTable y = four();
        y.addRoute(Texts.ip(10, 4, 0, 0), 16, 3);
        s.due("hardwareSize() behind a route without room", y.hardwareSize(), 0);
        ForwardingTable z = four();
        z.setCapacity(1);
        s.due("hardwareSize() behind setCapacity(1)", z.hardwareSize(), 0);

        s.says("section 6", "The churn increases by 1 for each prefix that is removed or put in, or whose action is changed.");
        ForwardingTable w = two();
        s.due("churn of two put in", w.count(2), 2);
        w.addRoute(TEN_TWO, 16, 3);
        s.due("churn of an exception put in", w.count(2), 3);
        w.addRoute(TEN_ONE, 16, 3);
        s.due("churn of one removed and put in", w.count(2), 5);
        w.packet(TEN_TWO, 9);
        w.setCapacity(3);
        s.due("changes()", changesOf(w), "10.1.0.0/16 1 3\n10.2.0.0/16 1 3\n");
        w.sync(1);
        s.due("churn of an action changed", w.count(2), 6);
        w.sync(1);
        s.due("churn of two actions changed", w.count(2), 7);
        w.clear();
        s.due("churn of three removed by clear()", w.count(2), 10);
        w.clear();
        s.due("churn of none removed", w.count(2), 10);
        ForwardingTable v = four();
        v.setCapacity(1);
        s.due("churn of four put in and removed by setCapacity(1)", v.count(2), 8);
        ForwardingTable u = turnedWithoutRoom();
        s.due("churn of three put in", u.count(2), 3);
        u.sync(1);
        s.due("churn of three removed by sync, and one put in", u.count(2), 7);
    }

    private static void clearedFirst(Sentences s) {
        s.says("section 6", "Synchronising with a limit: first, if the prefixes of the hardware and those of the target are "
                + "together (each counted once) more than twice the capacity, the hardware is cleared.");
        ForwardingTable x = turned();
        s.due("together four: changes()", x.changes(), 4);
        x.sync(1);
        s.due("together four: hardwareSize()", x.hardwareSize(), 3);
        s.due("together four: clearings", x.count(4), 0);
        ForwardingTable y = turnedWithoutRoom();
        s.due("hardwareSize() of three", y.hardwareSize(), 3);
        s.due("together five: changes()", y.changes(), 2);
        y.sync(1);
        s.due("together five: hardware", Texts.report(y, 3), "7.0.0.0/16 4\n");
        s.due("together five: clearings", y.count(4), 1);
        // Three in the hardware and two in the target, but 1/8 is in both: together they are four.
        ForwardingTable z = turnedWithoutRoom();
        z.packet(Texts.ip(1, 0, 0, 0), 9999);
        z.removeRoute(Texts.ip(1, 1, 0, 0), 16);
        s.due("hardware", Texts.report(z, 3), "1.0.0.0/8 1\n1.1.0.0/16 x\n3.0.0.0/16 2\n");
        s.due("target", Texts.report(z, 2), "1.0.0.0/8 1\n5.0.0.0/8 3\n");
        s.due("one in both: sync(1)", z.sync(1), 1);
        s.due("one in both: hardwareSize()", z.hardwareSize(), 4);
        s.due("one in both: clearings", z.count(4), 0);
    }

    private static void limit(Sentences s) {
        s.says("section 6", "Then changes are made one after the other, at most as many as the limit.");
        ForwardingTable x = turned();
        s.due("sync(1)", x.sync(1), 1);
        s.due("hardware", Texts.report(x, 3), "1.0.0.0/8 1\n3.0.0.0/16 2\n7.0.0.0/16 4\n");
        s.due("sync(2)", x.sync(2), 2);
        s.due("hardware", Texts.report(x, 3), "3.0.0.0/16 2\n5.0.0.0/8 3\n7.0.0.0/16 4\n");
        s.due("sync(2)", x.sync(2), 1);
        s.due("hardware", Texts.report(x, 3), "5.0.0.0/8 3\n7.0.0.0/16 4\n");
        s.due("sync(4) of four", turned().sync(4), 4);
        s.due("sync(3) of four", turned().sync(3), 3);
        s.due("sync(5) of four", turned().sync(5), 4);
        s.due("sync(1), what clearing removes is no change", turnedWithoutRoom().sync(1), 1);
    }

    private static void order(Sentences s) {
        s.says("section 6", "The next change is: if there are prefixes of the target that are not in the hardware or have "
                + "another action there, the longest one of them, among several the first in order, is put in or gets the "
                + "action of the target; otherwise, if there are prefixes in the hardware that are not in the target, the "
                + "shortest one of them, among several the first in order, is removed.");
        s.due("changes: the longest put in first, the shortest removed first", changesOf(turned()),
                "7.0.0.0/16 0 4\n5.0.0.0/8 0 3\n1.0.0.0/8 2 1\n3.0.0.0/16 2 2\n");
        ForwardingTable x = Texts.loaded("capacity 6;route 1.0.0.0/8 hop 1;route 2.0.0.0/32 hop 2;route 3.0.0.0/8 hop 3;"
                + "route 4.0.0.0/32 hop 4;route 0.0.0.0/0 hop 5;seen 0.0.0.0 times 1;seen 1.0.0.0 times 1;"
                + "seen 2.0.0.0 times 1;seen 3.0.0.0 times 1;seen 4.0.0.0 times 1;");
        s.due("changes: of the same length the first in order", changesOf(x),
                "2.0.0.0/32 0 2\n4.0.0.0/32 0 4\n1.0.0.0/8 0 1\n3.0.0.0/8 0 3\n0.0.0.0/0 0 5\n");
        x.sync(5);
        for (int i = 0; i < 6; i++) {
            x.age();
        }
        s.due("changes: all removed, of the same length the first in order", changesOf(x),
                "0.0.0.0/0 2 5\n1.0.0.0/8 2 1\n3.0.0.0/8 2 3\n2.0.0.0/32 2 2\n4.0.0.0/32 2 4\n");
        // One that is put in and one that gets another action stand in one order by their lengths.
        ForwardingTable y = two();
        y.setCapacity(4);
        y.addRoute(TEN_ONE, 16, 9);
        y.addRoute(Texts.ip(11, 0, 0, 0), 24, 4);
        y.addRoute(Texts.ip(12, 0, 0, 0), 8, 4);
        y.packet(Texts.ip(11, 0, 0, 0), 9);
        y.packet(Texts.ip(12, 0, 0, 0), 9);
        s.due("changes: put in, changed, put in", changesOf(y), "11.0.0.0/24 0 4\n10.1.0.0/16 1 9\n12.0.0.0/8 0 4\n");
    }

    private static void telling(Sentences s) {
        s.says("promise 29", "Returns the number of prefixes in the hardware.");
        s.due("hardwareSize() of a new table", new ForwardingTable().hardwareSize(), 0);
        s.due("hardwareSize() of two", two().hardwareSize(), 2);
        s.due("hardwareSize() of four, with exceptions", four().hardwareSize(), 4);

        ForwardingTable x = Texts.loaded("capacity 2;route 0.0.0.0/0 hop 15;route 255.255.255.255/32 hop 0;"
                + "seen 0.0.0.0 times 1;seen 255.255.255.255 times 1;");
        x.sync(2);
        s.says("promise 30", "`i`: index of a prefix of the hardware in the order of prefixes, from 0");
        s.due("hardware(0, 1)", x.hardware(0, 1), 0);
        s.due("hardware(1, 1), the last", x.hardware(1, 1), 32);
        s.due("hardware(3, 0), the last of four", four().hardware(3, 0), Texts.ip(10, 3, 0, 0));

        s.says("promise 30", "`what`: 0 its value (0 to 4294967295), 1 the length, 2 the action");
        s.due("hardware(0, 0)", x.hardware(0, 0), 0);
        s.due("hardware(0, 2)", x.hardware(0, 2), 15);
        s.due("hardware(1, 0)", x.hardware(1, 0), 4294967295L);
        s.due("hardware(1, 2)", x.hardware(1, 2), 0);
        s.due("hardware(2, 2) of an exception", four().hardware(2, 2), EXCEPTION);

        s.says("promise 30", "NOT_FOUND if there is no such prefix;");
        for (int what = 0; what < 3; what++) {
            s.due("hardware(0, " + what + ") of a new table", new ForwardingTable().hardware(0, what), NOT_FOUND);
            s.due("hardware(2, " + what + ") of two", x.hardware(2, what), NOT_FOUND);
            s.due("hardware(4, " + what + ") of four", four().hardware(4, what), NOT_FOUND);
            s.due("hardware(greatest int, " + what + ")", x.hardware(GREATEST, what), NOT_FOUND);
        }

        s.says("promise 30", "INVALID for a negative i or any other what.");
        s.invalid("hardware(-1, 0)", t -> t.hardware(-1, 0));
        s.invalid("hardware(least int, 2)", t -> t.hardware(LEAST, 2));
        s.invalid("hardware(0, -1)", t -> t.hardware(0, -1));
        s.invalid("hardware(0, 3)", t -> t.hardware(0, 3));
        s.invalid("hardware(99, 3)", t -> t.hardware(99, 3));
        s.invalid("hardware(0, greatest int)", t -> t.hardware(0, GREATEST));
    }

    private static void action(Sentences s) {
        ForwardingTable x = Texts.loaded("capacity 4;route 0.0.0.0/32 hop 1;route 128.0.0.0/1 hop 2;"
                + "route 255.255.255.255/32 hop 3;seen 0.0.0.0 times 1;seen 128.0.0.0 times 1;"
                + "seen 255.255.255.255 times 1;");
        x.sync(3);
        s.says("promise 31", "`address`: an address");
        s.due("action(0)", x.action(0), 1);
        s.due("action(least int)", x.action(LEAST), 2);
        s.due("action(-1)", x.action(-1), 3);

        s.says("promise 31", "Returns the action of the longest prefix of the hardware that contains it;");
        s.due("action(-2)", x.action(-2), 2);
        s.due("action of the inner one", two().action(TEN_ONE), 2);
        s.due("action just below the inner one", two().action(TEN_ONE - 1), 1);
        s.due("action just above the inner one", two().action(TEN_TWO), 1);
        s.due("action of an exception", four().action(TEN_TWO), EXCEPTION);

        s.says("promise 31", "NOT_FOUND if there is none.");
        s.due("action(0) of a new table", new ForwardingTable().action(0), NOT_FOUND);
        s.due("action(1)", x.action(1), NOT_FOUND);
        s.due("action(greatest int)", x.action(GREATEST), NOT_FOUND);
        s.due("action just below 10/8", two().action(TEN - 1), NOT_FOUND);
        s.due("action just above 10/8", two().action(Texts.ip(11, 0, 0, 0)), NOT_FOUND);
    }

    private static void changes(Sentences s) {
        s.says("promise 32", "Returns the number of changes that sync() would make without a limit (not counting what clearing "
                + "removes).");
        s.due("changes() of a new table", new ForwardingTable().changes(), 0);
        s.due("changes() of a hardware that is the target", two().changes(), 0);
        s.due("changes() of four", turned().changes(), 4);
        s.due("changes() of two, behind three that clearing removes", turnedWithoutRoom().changes(), 2);
        ForwardingTable x = turned();
        x.changes();
        s.due("hardwareSize() stays", x.hardwareSize(), 2);
        x.clear();
        s.due("changes() behind clear()", x.changes(), 2);
        x.undo();
        s.due("changes() when that is undone", x.changes(), 4);
        x.sync(3);
        s.due("changes() behind sync(3)", x.changes(), 1);
        x.setCapacity(3);
        s.due("changes() with another capacity", x.changes(), 2);
        // The most: eighty prefixes in the hardware, and an empty target.
        ForwardingTable most = eighty();
        most.age();
        s.due("changes() at the most", most.changes(), 80);
        s.due("change(79, 0), the last", most.change(79, 0), 79);
        s.due("sync(200) at the most", most.sync(200), 80);

        s.says("promise 33", "Returns a number of a change that sync() would make without a limit.");
        s.due("change(3, 1), far behind the first", turned().change(3, 1), 16);
        s.due("change(0, 0) of one behind clearing", turnedWithoutRoom().change(0, 0), Texts.ip(7, 0, 0, 0));
        s.due("change(2, 0): what clearing removes is none", turnedWithoutRoom().change(2, 0), NOT_FOUND);

        s.says("promise 33", "`i`: index of the change in the order in which they would be made, from 0");
        long[] values = {7L << 24, 5L << 24, 1L << 24, 3L << 24};
        for (int i = 0; i < 4; i++) {
            s.due("change(" + i + ", 0)", turned().change(i, 0), values[i]);
        }

        s.says("promise 33", "`what`: 0 the value of the prefix (0 to 4294967295), 1 its length, 2 the kind of the change: 0 it "
                + "is put in, 1 its action is changed, 2 it is removed, 3 the action that it gets (of one that is removed the "
                + "action that it has)");
        ForwardingTable y = Texts.loaded("capacity 2;route 0.0.0.0/0 hop 15;route 255.255.255.255/32 hop 0;"
                + "seen 0.0.0.0 times 1;seen 255.255.255.255 times 1;");
        long[][] putIn = {{4294967295L, 32, 0, 0}, {0, 0, 0, 15}};
        told(s, "put in", y, putIn);
        y.sync(2);
        y.addRoute(-1, 32, 3);
        told(s, "changed", y, new long[][] {{4294967295L, 32, 1, 3}});
        y.removeRoute(-1, 32);
        told(s, "removed, an exception", y, new long[][] {{4294967295L, 32, 2, EXCEPTION}});
        y.sync(1);
        y.age();
        told(s, "removed, a hop", y, new long[][] {{0, 0, 2, 15}});
        ForwardingTable z = two();
        z.addRoute(Texts.ip(10, 1, 1, 0), 24, 9);
        z.packet(TEN, 99);
        told(s, "changed to an exception", z, new long[][] {{TEN_ONE, 16, 1, EXCEPTION}, {Texts.ip(10, 1, 1, 0), 24, 2, 16}});
    }

    private static void told(Sentences s, String what, ForwardingTable x, long[][] due) {
        s.due("changes(): " + what, x.changes(), due.length);
        for (int i = 0; i < due.length; i++) {
            for (int k = 0; k < 4; k++) {
                s.due("change(" + i + ", " + k + "): " + what, x.change(i, k), due[i][k]);
            }
        }
    }

    private static void wrongChangeNumbers(Sentences s) {
        s.says("promise 33", "NOT_FOUND if there is no such change;");
        for (int what = 0; what < 4; what++) {
            s.due("change(0, " + what + ") of a new table", new ForwardingTable().change(0, what), NOT_FOUND);
            s.due("change(0, " + what + ") of none", two().change(0, what), NOT_FOUND);
            s.due("change(4, " + what + ") of four", turned().change(4, what), NOT_FOUND);
            s.due("change(2, " + what + ") of two behind clearing", turnedWithoutRoom().change(2, what), NOT_FOUND);
            s.due("change(greatest int, " + what + ")", turned().change(GREATEST, what), NOT_FOUND);
        }

        s.says("promise 33", "INVALID for a negative i or any other what.");
        s.invalid("change(-1, 0)", t -> t.change(-1, 0));
        s.invalid("change(least int, 3)", t -> t.change(LEAST, 3));
        s.invalid("change(0, -1)", t -> t.change(0, -1));
        s.invalid("change(0, 4)", t -> t.change(0, 4));
        s.invalid("change(999, 4)", t -> t.change(999, 4));
        s.invalid("change(0, greatest int)", t -> t.change(0, GREATEST));
    }

    private static void missedAfter(Sentences s) {
        s.says("promise 35", "`limit`: 0 to 200");
        s.due("missedAfter(0)", turned().missedAfter(0), 18);
        s.due("missedAfter(200)", turned().missedAfter(200), 10);
        s.due("missedAfter(0) of a new table", new ForwardingTable().missedAfter(0), 0);
        s.due("missedAfter(200) of a new table", new ForwardingTable().missedAfter(200), 0);

        s.says("promise 35", "Returns what missed() would be after sync() with that limit (0: without it);");
        int[] missed = {18, 9, 0, 5, 10, 10};
        int[] cleared = {18, 19, 10, 10};
        for (int limit = 0; limit < missed.length; limit++) {
            s.due("missedAfter(" + limit + ")", turned().missedAfter(limit), missed[limit]);
        }
        for (int limit = 0; limit < cleared.length; limit++) {
            ForwardingTable x = turnedWithoutRoom();
            s.due("missedAfter(" + limit + ") with clearing", x.missedAfter(limit), cleared[limit]);
            s.due("hardwareSize() stays", x.hardwareSize(), 3);
            if (limit > 0) {
                x.sync(limit);
            }
            s.due("missed() after sync(" + limit + ")", x.missed(), cleared[limit]);
        }
        s.due("missedAfter(9) when nothing is to change", two().missedAfter(9), 0);

        s.says("promise 35", "INVALID for an invalid argument.");
        for (int limit : new int[] {-1, 201, LEAST, GREATEST}) {
            s.invalid("missedAfter(" + limit + ")", t -> t.missedAfter(limit));
        }
        s.due("INVALID", two().missedAfter(-200), INVALID);
    }

    private static void sync(Sentences s) {
        s.says("promise 36", "Synchronises the hardware with the target (section 6).");
        ForwardingTable x = turned();
        x.sync(200);
        s.due("hardware is the target", Texts.report(x, 3), Texts.report(x, 2));
        s.due("hardwareSize()", x.hardwareSize(), 2);
        ForwardingTable y = turned();
        for (int i = 0; i < 6; i++) {
            y.age();
        }
        y.sync(200);
        s.due("hardwareSize() with an empty target", y.hardwareSize(), 0);

        s.says("promise 36", "`limit`: 1 to 200");
        s.due("sync(1)", turned().sync(1), 1);
        s.due("sync(200)", turned().sync(200), 4);

        s.says("promise 36", "Returns the number of changes that were made (not counting what clearing removes);");
        s.due("sync(2) of four", turned().sync(2), 2);
        s.due("sync(9) of four", turned().sync(9), 4);
        s.due("sync(9) of two behind clearing", turnedWithoutRoom().sync(9), 2);
    }

    private static void syncRefused(Sentences s) {
        s.says("promise 36", "INVALID for an invalid argument;");
        for (int limit : new int[] {0, -1, 201, LEAST, GREATEST}) {
            s.invalid("sync(" + limit + ")", t -> t.sync(limit));
        }
        s.same("sync(0) when nothing is to change", HardwareSentences::two, t -> t.sync(0), INVALID);

        s.says("promise 36", "NOT_FOUND if there is nothing to change.");
        s.same("sync(1) of a new table", ForwardingTable::new, t -> t.sync(1), NOT_FOUND);
        s.same("sync(200) of a hardware that is the target", HardwareSentences::two, t -> t.sync(200), NOT_FOUND);
    }

    private static void clear(Sentences s) {
        s.says("promise 37", "Clears the hardware.");
        ForwardingTable one = Texts.busy();
        one.clear();
        s.due("hardwareSize() of one", one.hardwareSize(), 0);
        s.due("clearings of one", one.count(4), 1);
        s.due("churn of one put in and removed", one.count(2), 2);
        ForwardingTable x = four();
        x.clear();
        s.due("hardwareSize()", x.hardwareSize(), 0);
        s.due("clearings", x.count(4), 1);

        s.says("promise 37", "Returns the number of prefixes that were removed;");
        s.due("clear() of one", Texts.busy().clear(), 1);
        s.due("clear() of four", four().clear(), 4);

        s.says("promise 37", "NOT_FOUND if it was empty.");
        s.same("clear() of a new table", ForwardingTable::new, ForwardingTable::clear, NOT_FOUND);
        s.same("clear() of a hardware that was cleared", HardwareSentences::cleared, ForwardingTable::clear, NOT_FOUND);
    }

    private static ForwardingTable cleared() {
        ForwardingTable x = four();
        x.clear();
        return x;
    }

    private static void hardwareAddresses(Sentences s) {
        s.says("promise 39", "Returns the number of addresses for which the hardware answers.");
        s.due("hardwareAddresses() of a new table", new ForwardingTable().hardwareAddresses(), 0);
        s.due("hardwareAddresses() of 10/8", two().hardwareAddresses(), 1 << 24);
        s.due("hardwareAddresses() without two exceptions", four().hardwareAddresses(), (1 << 24) - (2 << 16));
        ForwardingTable x = Texts.loaded("capacity 2;route 0.0.0.0/0 hop 15;route 255.255.255.255/32 hop 0;"
                + "seen 0.0.0.0 times 1;seen 255.255.255.255 times 1;");
        x.sync(1);
        s.due("hardwareAddresses() of one address with the hop 0", x.hardwareAddresses(), 1);
        x.sync(1);
        s.due("hardwareAddresses() of all", x.hardwareAddresses(), 4294967296L);
        x.addRoute(-1, 32, 9);
        s.due("hardwareAddresses() of all but one", x.hardwareAddresses(), 4294967295L);
        x.addRoute(0, 0, 9);
        s.due("hardwareAddresses() when all went", x.hardwareAddresses(), 0);
        // Inside an exception, a kept entry answers again.
        ForwardingTable y = Texts.loaded("capacity 3;route 10.0.0.0/8 hop 1;route 10.1.0.0/16 hop 2;"
                + "route 10.1.2.0/24 hop 3;seen 10.9.0.0 times 9;seen 10.1.2.3 times 9;");
        y.sync(3);
        y.addRoute(TEN_ONE, 16, 4);
        y.sync(1);
        s.due("hardware", Texts.report(y, 3), "10.0.0.0/8 1\n10.1.0.0/16 x\n10.1.2.0/24 3\n");
        s.due("hardwareAddresses() with one inside an exception", y.hardwareAddresses(), (1 << 24) - (1 << 16) + (1 << 8));
    }
}
