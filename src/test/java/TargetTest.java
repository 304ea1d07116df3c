/** Promises 22 to 28: the target. */
public final class TargetTest {
    private static final Check CHECK = new Check("TargetTest");

    private static final String NESTED = "route 10.0.0.0/8 hop 1;route 10.1.0.0/16 hop 2;route 10.1.2.0/24 hop 3;"
            + "route 10.2.0.0/16 hop 4;";

    public static void main(String[] args) {
        nothingToKeep();
        exceptions();
        ties();
        noHits();
        otherCapacities();
        atTheMost();
        oneTree();
        lastOfSixty();
        deepest();
        CHECK.end();
    }

    private static void nothingToKeep() {
        CHECK.due("coldest() as the first call", new ForwardingTable().coldest(), -2);
        CHECK.due("exceptions() as the first call", Texts.loaded("capacity 8;" + NESTED
                + "seen 10.9.0.0 times 1;").exceptions(), 1);
        CHECK.due("target(1, 2) as the first call", Texts.loaded("capacity 8;" + NESTED
                + "seen 10.9.0.0 times 1;").target(1, 2), ForwardingTable.EXCEPTION);
        CHECK.due("coldest() as the first call", Texts.loaded("capacity 8;" + NESTED
                + "seen 10.1.2.0 times 1;").coldest(), 2);
        ForwardingTable x = Texts.loaded("capacity 8;" + NESTED + "seen 99.0.0.0 times 9;");
        CHECK.due("targetSize() without hits", x.targetSize(), 0);
        CHECK.due("exceptions() without hits", x.exceptions(), 0);
        CHECK.due("coldest() without hits", x.coldest(), -2);
        CHECK.due("lostHits() without hits", x.lostHits(), 0);
        CHECK.due("enough() without hits", x.enough(), 0);
        CHECK.due("target(0, 0)", x.target(0, 0), -2);
        CHECK.due("target(0, 3)", x.target(0, 3), -1);
        CHECK.due("target(0, -1)", x.target(0, -1), -1);
        CHECK.due("target(-1, 0)", x.target(-1, 0), -1);
    }

    private static void exceptions() {
        // Entries: 0 10/8 (100 hits), 1 10.1/16 (1), 2 10.1.2/24 (30), 3 10.2/16 (2).
        ForwardingTable x = Texts.loaded("capacity 4;" + NESTED + "seen 10.9.0.0 times 100;seen 10.1.1.1 times 1;"
                + "seen 10.1.2.3 times 30;seen 10.2.0.0 times 2;");
        CHECK.due("lostHits() with 4", x.lostHits(), 0);
        CHECK.due("targetSize() with 4", x.targetSize(), 4);
        CHECK.due("exceptions() with 4", x.exceptions(), 0);
        CHECK.due("coldest() with 4", x.coldest(), 1);
        x.setCapacity(3);
        // 10/8 with an exception for 10.1/16, and 10.2/16: 31 lost, as all else loses 100.
        CHECK.due("lostHits() with 3", x.lostHits(), 31);
        CHECK.due("target with 3", Texts.report(x, 2), "10.0.0.0/8 1\n10.1.0.0/16 x\n10.2.0.0/16 4\n");
        CHECK.due("exceptions() with 3", x.exceptions(), 1);
        CHECK.due("targetSize() with 3", x.targetSize(), 3);
        CHECK.due("target(1, 0)", x.target(1, 0), 0x0A010000);
        CHECK.due("target(1, 1)", x.target(1, 1), 16);
        CHECK.due("target(1, 2)", x.target(1, 2), ForwardingTable.EXCEPTION);
        CHECK.due("target(2, 2)", x.target(2, 2), 4);
        CHECK.due("target(3, 2)", x.target(3, 2), -2);
        CHECK.due("coldest() with 3", x.coldest(), 3);
        x.setCapacity(2);
        CHECK.due("lostHits() with 2", x.lostHits(), 101);
        CHECK.due("target with 2", Texts.report(x, 2), "10.1.2.0/24 3\n10.2.0.0/16 4\n");
        x.setCapacity(1);
        CHECK.due("lostHits() with 1", x.lostHits(), 103);
        CHECK.due("target with 1", Texts.report(x, 2), "10.1.2.0/24 3\n");
        CHECK.due("enough()", x.enough(), 4);
        x.packet(Texts.ip(10, 2, 0, 0), 29);
        // 10.1.2/24 and 10.2/16 do not differ now: the one with the smaller number is kept.
        CHECK.due("hits of entry 3", x.entry(3, 4), 31);
        CHECK.due("target of the larger", Texts.report(x, 2), "10.2.0.0/16 4\n");
        x.undo();
        x.packet(Texts.ip(10, 2, 0, 0), 28);
        CHECK.due("target of equals", Texts.report(x, 2), "10.1.2.0/24 3\n");
        CHECK.due("entry(2, 5) of equals", x.entry(2, 5), 1);
        CHECK.due("entry(3, 5) of equals", x.entry(3, 5), 0);
    }

    private static void ties() {
        // All have the same hits: of those with the fewest lost hits and places, the first are kept.
        ForwardingTable x = Texts.loaded("capacity 2;route 1.0.0.0/8 hop 1;route 2.0.0.0/8 hop 2;route 4.0.0.0/8 hop 3;"
                + "route 8.0.0.0/8 hop 4;seen 1.0.0.0 times 5;seen 2.0.0.0 times 5;seen 4.0.0.0 times 5;seen 8.0.0.0 times 5;");
        CHECK.due("target of equals", Texts.report(x, 2), "1.0.0.0/8 1\n2.0.0.0/8 2\n");
        CHECK.due("coldest() of equals", x.coldest(), 0);
        // 10/8 with an exception for 10.1/16, or 10.1/16 alone: 5 lost each, the fewer places count.
        ForwardingTable y = Texts.loaded("capacity 1;route 10.0.0.0/8 hop 1;route 10.1.0.0/16 hop 2;"
                + "route 99.0.0.0/8 hop 3;seen 10.0.0.1 times 5;seen 10.1.0.1 times 5;seen 99.0.0.0 times 5;");
        CHECK.due("target with 1", Texts.report(y, 2), "10.1.0.0/16 2\n");
        y.setCapacity(2);
        CHECK.due("target with 2", Texts.report(y, 2), "10.0.0.0/8 1\n10.1.0.0/16 2\n");
        y.setCapacity(3);
        CHECK.due("target with 3", Texts.report(y, 2), "10.0.0.0/8 1\n10.1.0.0/16 2\n99.0.0.0/8 3\n");
        CHECK.due("coldest()", y.coldest(), 0);
    }

    private static void noHits() {
        // An entry without hits inside a kept one takes a place as an exception or kept: it is kept.
        ForwardingTable x = Texts.loaded("capacity 8;" + NESTED + "seen 10.9.0.0 times 1;");
        CHECK.due("target", Texts.report(x, 2), "10.0.0.0/8 1\n10.1.0.0/16 x\n10.2.0.0/16 4\n");
        CHECK.due("entry(3, 5)", x.entry(3, 5), 1);
        CHECK.due("coldest()", x.coldest(), 3);
        // Not kept, as it would bring another place: an entry without hits outside all others.
        ForwardingTable y = Texts.loaded("capacity 8;" + NESTED + "seen 10.2.0.0 times 1;");
        CHECK.due("target", Texts.report(y, 2), "10.2.0.0/16 4\n");
    }

    private static void otherCapacities() {
        ForwardingTable x = Texts.loaded("capacity 8;" + NESTED + "seen 10.9.0.0 times 100;seen 10.1.1.1 times 1;"
                + "seen 10.1.2.3 times 30;seen 10.2.0.0 times 2;");
        int[] lost = {133, 103, 101, 31, 0, 0};
        for (int c = 0; c < lost.length; c++) {
            CHECK.due("lostHitsWith(" + c + ")", x.lostHitsWith(c), lost[c]);
        }
        CHECK.due("lostHitsWith(60)", x.lostHitsWith(60), 0);
        CHECK.due("lostHitsWith(61)", x.lostHitsWith(61), -1);
        CHECK.due("lostHitsWith(-1)", x.lostHitsWith(-1), -1);
        CHECK.due("enough()", x.enough(), 4);
        CHECK.due("capacity() after asking", x.capacity(), 8);
        CHECK.due("targetSize() after asking", x.targetSize(), 4);
        CHECK.due("undo() after asking", x.undo(), -1);
    }

    /** Sixty entries, forty of them with hits, and the most that a capacity can be. */
    private static void atTheMost() {
        StringBuilder text = new StringBuilder("capacity 40;");
        for (int i = 0; i < 60; i++) {
            text.append("route").append(4 * i).append(".0.0.0/").append(8 + i % 3).append("hop").append(1 + i % 15).append(";");
        }
        ForwardingTable x = Texts.loaded(text.toString());
        CHECK.due("compressed()", x.compressed(), 60);
        for (int i = 0; i < 40; i++) {
            x.packet(Texts.ip(4 * (59 - i), 0, 0, 0), 9999);
        }
        CHECK.due("lostHits()", x.lostHits(), 0);
        CHECK.due("enough()", x.enough(), 40);
        CHECK.due("targetSize()", x.targetSize(), 40);
        CHECK.due("entry(19, 5)", x.entry(19, 5), 0);
        CHECK.due("entry(20, 5)", x.entry(20, 5), 1);
        CHECK.due("lostHitsWith(39)", x.lostHitsWith(39), 9999);
        CHECK.due("lostHitsWith(0)", x.lostHitsWith(0), 40 * 9999);
        // A route around all, with its own packets and those of two routes with the same hop: with
        // it kept, all others need a place, so it is not.
        x.removeRoute(Texts.ip(4, 0, 0, 0), 9);
        x.addRoute(0, 0, 15);
        x.packet(-1, 9999);
        CHECK.due("compressed() with a route around all", x.compressed() > 50, true);
        CHECK.due("enough() with it", x.enough(), x.compressed());
        CHECK.due("lostHits() with it", x.lostHits(), 3 * 9999);
        CHECK.due("entry(0, 5)", x.entry(0, 5), 0);
    }

    /** Sixty entries, all but one inside one of them. */
    private static void oneTree() {
        ForwardingTable x = new ForwardingTable();
        x.addRoute(0, 0, 15);
        for (int i = 0; i < 59; i++) {
            x.addRoute(Texts.ip(4 * i + 1, 0, 0, 0), 8 + i % 3, 1 + i % 14);
        }
        x.packet(0, 5);
        CHECK.due("compressed()", x.compressed(), 60);
        CHECK.due("enough()", x.enough(), 60);
        CHECK.due("lostHitsWith(59)", x.lostHitsWith(59), 5);
        CHECK.due("lostHitsWith(60)", x.lostHitsWith(60), 0);
        x.setCapacity(40);
        CHECK.due("targetSize()", x.targetSize(), 0);
        x.packet(Texts.ip(4 * 58 + 1, 0, 0, 0), 3);
        CHECK.due("target", Texts.report(x, 2), "233.0.0.0/9 3\n");
        CHECK.due("coldest()", x.coldest(), 59);
    }

    /** An entry without hits inside the one before the last of sixty. */
    private static void lastOfSixty() {
        ForwardingTable x = new ForwardingTable();
        for (int i = 0; i < 59; i++) {
            x.addRoute(Texts.ip(4 * i + 1, 0, 0, 0), 8, 1 + i % 14);
        }
        x.addRoute(Texts.ip(233, 1, 0, 0), 16, 15);
        x.packet(Texts.ip(233, 0, 0, 0), 1);
        CHECK.due("compressed()", x.compressed(), 60);
        CHECK.due("entry(58, 5)", x.entry(58, 5), 1);
        CHECK.due("entry(59, 5)", x.entry(59, 5), 1);
        CHECK.due("target", Texts.report(x, 2), "233.0.0.0/8 3\n233.1.0.0/16 15\n");
    }

    /** Thirty-one entries, each of which lies inside the one before. */
    private static void deepest() {
        ForwardingTable x = new ForwardingTable();
        x.setCapacity(40);
        for (int length = 0; length <= 32; length++) {
            // Without routes of the lengths 14 and 28, what is inside does not count around it.
            if (length != 14 && length != 28) {
                x.addRoute(0, length, length < 14 ? length + 1 : length < 28 ? length - 14 : length - 28);
            }
        }
        CHECK.due("compressed()", x.compressed(), 31);
        for (int i = 1; i < 31; i++) {
            CHECK.due("entry(" + i + ", 3)", x.entry(i, 3), i - 1);
        }
        for (int i = 0; i < 31; i++) {
            int length = (int) x.entry(i, 1);
            x.packet(length == 32 ? 0 : 1 << (31 - length), 31 - i);
        }
        for (int i = 0; i < 31; i++) {
            CHECK.due("entry(" + i + ", 4)", x.entry(i, 4), 31 - i);
        }
        CHECK.due("enough()", x.enough(), 31);
        // With fewer places, the entries around are kept down to an exception, or those inside: n
        // places keep the last n, or any other n - 1 that follow each other.
        for (int n = 1; n < 31; n++) {
            int last = n * (n + 1) / 2;
            int first = 31 * 32 / 2 - (32 - n) * (33 - n) / 2;
            CHECK.due("lostHitsWith(" + n + ")", x.lostHitsWith(n), 31 * 32 / 2 - Math.max(last, first));
        }
    }
}
