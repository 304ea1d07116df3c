import java.util.Random;

/** Promises 18, 19, 21, 45 and 46: the compressed table. */
public final class CompressedTest {
    private static final Check CHECK = new Check("CompressedTest");
    private static final int Q1 = 0x40000000;
    private static final int Q2 = 0x80000000;
    private static final int Q3 = 0xC0000000;

    public static void main(String[] args) {
        byHand();
        numbersOfEntries();
        busiest();
        without();
        costliest();
        sameAnswers();
        CHECK.end();
    }

    /** Routes as value, length, hop; entries likewise, as a report. */
    private static void table(int[][] routes, String entries) {
        ForwardingTable x = new ForwardingTable();
        for (int[] r : routes) {
            x.addRoute(r[0], r[1], r[2]);
        }
        String report = Texts.report(x, 1);
        CHECK.due("compressed table of\n" + Texts.report(x, 0), report, entries);
        CHECK.due("compressed() of it", x.compressed(), entries.length() - entries.replace("\n", "").length());
    }

    private static void byHand() {
        table(new int[][] {}, "");
        table(new int[][] {{0, 0, 0}}, "");
        table(new int[][] {{0, 0, 7}}, "0.0.0.0/0 7\n");
        table(new int[][] {{-1, 32, 0}}, "");
        table(new int[][] {{-1, 32, 3}}, "255.255.255.255/32 3\n");
        table(new int[][] {{0, 0, 5}, {Q2, 1, 5}}, "0.0.0.0/0 5\n");
        // Different halves: the smallest hop, or the inherited one, and the other half gets an entry.
        table(new int[][] {{0, 1, 1}, {Q2, 1, 2}}, "0.0.0.0/0 1\n128.0.0.0/1 2\n");
        table(new int[][] {{0, 1, 2}, {Q2, 1, 1}}, "0.0.0.0/0 1\n0.0.0.0/1 2\n");
        table(new int[][] {{0, 1, 0}, {Q2, 1, 2}}, "128.0.0.0/1 2\n");
        table(new int[][] {{0, 0, 3}, {0, 1, 3}, {Q2, 1, 2}}, "0.0.0.0/0 2\n0.0.0.0/1 3\n");
        // What both halves share counts before the rest.
        table(new int[][] {{0, 2, 1}, {Q1, 2, 2}, {Q2, 2, 2}, {Q3, 2, 3}},
                "0.0.0.0/0 2\n0.0.0.0/2 1\n192.0.0.0/2 3\n");
        table(new int[][] {{0, 2, 1}, {Q1, 2, 2}, {Q2, 2, 2}, {Q3, 2, 1}},
                "0.0.0.0/0 1\n64.0.0.0/2 2\n128.0.0.0/2 2\n");
        table(new int[][] {{0, 2, 1}, {Q1, 2, 2}, {Q2, 2, 3}, {Q3, 2, 4}},
                "0.0.0.0/0 1\n64.0.0.0/2 2\n128.0.0.0/1 3\n192.0.0.0/2 4\n");
        // A route that covers all but one address, from the other side.
        table(new int[][] {{Q2, 1, 4}, {Q2, 2, 0}}, "192.0.0.0/2 4\n");
        table(new int[][] {{Q2, 1, 4}, {Q2, 3, 0}}, "128.0.0.0/1 4\n128.0.0.0/3 0\n");
        // Routes of the longest prefixes.
        table(new int[][] {{6, 32, 15}, {7, 32, 15}}, "0.0.0.6/31 15\n");
        table(new int[][] {{6, 32, 15}, {7, 32, 14}}, "0.0.0.6/31 14\n0.0.0.6/32 15\n");
        table(new int[][] {{4, 30, 9}, {6, 32, 15}, {7, 32, 15}}, "0.0.0.4/30 9\n0.0.0.6/31 15\n");
        table(new int[][] {{0, 0, 1}, {0, 32, 2}, {1, 32, 2}, {2, 31, 3}},
                "0.0.0.0/0 1\n0.0.0.0/30 2\n0.0.0.2/31 3\n");
    }

    private static void numbersOfEntries() {
        ForwardingTable x = Texts.loaded("capacity 2;route 10.0.0.0/8 hop 1;route 10.1.0.0/16 hop 2;"
                + "route 10.1.2.0/24 hop 1;route 200.0.0.0/8 hop 3;seen 10.1.2.3 times 4;seen 10.1.3.3 times 5;"
                + "seen 10.1.4.3 times 6;seen 201.0.0.0 times 99;seen 10.9.9.9 times 1;");
        CHECK.due("compressed()", x.compressed(), 4);
        long[][] due = {
            {0x0A000000, 8, 1, -2, 1, 0}, {0x0A010000, 16, 2, 0, 11, 1}, {0x0A010200, 24, 1, 1, 4, 1},
            {0xC8000000L, 8, 3, -2, 0, 0}};
        for (int i = 0; i < 4; i++) {
            for (int what = 0; what < 6; what++) {
                CHECK.due("entry(" + i + ", " + what + ")", x.entry(i, what), due[i][what]);
            }
        }
        for (int what = 0; what < 6; what++) {
            CHECK.due("entry(4, " + what + ")", x.entry(4, what), -2);
            CHECK.due("entry(-1, " + what + ")", x.entry(-1, what), -1);
        }
        CHECK.due("entry(0, 6)", x.entry(0, 6), -1);
        CHECK.due("entry(0, -1)", x.entry(0, -1), -1);
        CHECK.due("entry(9, 6)", x.entry(9, 6), -1);
        x.removeRoute(Texts.ip(10, 1, 0, 0), 16);
        CHECK.due("compressed() without 10.1/16", x.compressed(), 2);
        CHECK.due("entry(0, 4) without it", x.entry(0, 4), 16);
        x.undo();
        CHECK.due("compressed() with it again", x.compressed(), 4);
    }

    private static void busiest() {
        ForwardingTable x = Texts.loaded("capacity 2;route 1.0.0.0/8 hop 1;route 2.0.0.0/8 hop 2;route 4.0.0.0/8 hop 3;"
                + "seen 9.0.0.0 times 99;");
        CHECK.due("busiest() without hits", x.busiest(), -2);
        x.packet(Texts.ip(4, 0, 0, 0), 1);
        CHECK.due("busiest()", x.busiest(), 2);
        x.packet(Texts.ip(2, 0, 0, 0), 1);
        CHECK.due("busiest() of two", x.busiest(), 1);
        x.packet(Texts.ip(4, 0, 0, 9), 1);
        CHECK.due("busiest() with two addresses", x.busiest(), 2);
        CHECK.due("busiest() of a new one", new ForwardingTable().busiest(), -2);
    }

    private static void without() {
        ForwardingTable x = Texts.loaded("capacity 2;route 0.0.0.0/1 hop 1;route 128.0.0.0/1 hop 1;route 10.0.0.0/8 hop 2;");
        CHECK.due("compressed()", x.compressed(), 2);
        CHECK.due("compressedWithout(0)", x.compressedWithout(0), 2);
        CHECK.due("compressedWithout(1)", x.compressedWithout(1), 1);
        CHECK.due("compressedWithout(2)", x.compressedWithout(2), 2);
        CHECK.due("compressedWithout(3)", x.compressedWithout(3), -2);
        CHECK.due("compressedWithout(-1)", x.compressedWithout(-1), -1);
        CHECK.due("compressedWithout(least int)", x.compressedWithout(Integer.MIN_VALUE), -1);
        CHECK.due("compressed() after asking", x.compressed(), 2);
        CHECK.due("routes() after asking", x.routes(), 3);
        CHECK.due("costliest()", x.costliest(), 1);
        CHECK.due("entry(1, 0) after asking", x.entry(1, 0), 0x0A000000);
    }

    private static void costliest() {
        ForwardingTable x = new ForwardingTable();
        CHECK.due("costliest() without routes", x.costliest(), -2);
        x.addRoute(0, 8, 0);
        CHECK.due("costliest() of one that counts nothing", x.costliest(), 0);
        x.addRoute(Texts.ip(9, 0, 0, 0), 8, 1);
        x.addRoute(Texts.ip(99, 0, 0, 0), 8, 1);
        CHECK.due("costliest() of equals", x.costliest(), 1);
        CHECK.due("compressedWithout(0)", x.compressedWithout(0), 2);
        CHECK.due("compressedWithout(1)", x.compressedWithout(1), 1);
        // Without 10/7 the halves of it with another hop need no entry of their own.
        ForwardingTable y = Texts.loaded("capacity 2;route 9.0.0.0/8 hop 1;route 10.0.0.0/7 hop 2;"
                + "route 10.0.0.0/9 hop 0;route 11.0.0.0/9 hop 0;route 99.0.0.0/8 hop 1;");
        CHECK.due("compressed()", y.compressed(), 4);
        CHECK.due("costliest()", y.costliest(), 1);
        CHECK.due("compressedWithout(1)", y.compressedWithout(1), 2);
        // Leaving a route out can make the table larger, too.
        ForwardingTable z = Texts.loaded("capacity 2;route 0.0.0.0/2 hop 1;route 64.0.0.0/2 hop 1;"
                + "route 128.0.0.0/2 hop 1;route 192.0.0.0/2 hop 1;");
        CHECK.due("compressed()", z.compressed(), 1);
        CHECK.due("compressedWithout(1)", z.compressedWithout(1), 2);
        CHECK.due("costliest()", z.costliest(), 0);
    }

    private static int byEntries(ForwardingTable x, int address) {
        int hop = 0;
        long longest = -1;
        for (int i = 0; i < x.compressed(); i++) {
            long first = x.entry(i, 0);
            long size = 1L << (32 - x.entry(i, 1));
            long a = address & 0xFFFFFFFFL;
            if (a >= first && a < first + size && x.entry(i, 1) > longest) {
                longest = x.entry(i, 1);
                hop = (int) x.entry(i, 2);
            }
        }
        return hop;
    }

    /** Sixty routes that share as little as they can, and some that share much. */
    private static void sameAnswers() {
        Random random = new Random(7);
        for (int run = 0; run < 60; run++) {
            ForwardingTable x = new ForwardingTable();
            Model m = new Model();
            int bits = 2 + run % 31;
            for (int i = 0; i < 60; i++) {
                int length = Math.min(32, 32 - bits + random.nextInt(bits + 1) + run % 2 * bits);
                int value = length == 0 ? 0 : random.nextInt() << (32 - length);
                if (run % 3 > 0 && length > 0) {
                    value = (random.nextInt() & (1 << Math.min(bits, 30)) - 1) << (32 - length);
                }
                int hop = random.nextInt(1 + run % 16);
                x.addRoute(value, length, hop);
                m.addRoute(value, length, hop);
            }
            CHECK.due("run " + run + ", compressed table", Texts.report(x, 1), m.report(1));
            CHECK.due("run " + run + ", no more entries than routes", x.compressed() <= x.routes(), true);
            for (long b : Model.boundaries(m.now.routes)) {
                CHECK.due("run " + run + ", answer for " + b, byEntries(x, (int) b), x.answer((int) b));
                CHECK.due("run " + run + ", answer below " + b, byEntries(x, (int) b - 1), x.answer((int) b - 1));
            }
        }
    }
}
