import java.util.Random;

/** The sentences of section 3 and of promises 18, 19, 21, 45 and 46: the compressed table. */
final class CompressedSentences {
    private static final int INVALID = ForwardingTable.INVALID;
    private static final int NOT_FOUND = ForwardingTable.NOT_FOUND;
    private static final int LEAST = Integer.MIN_VALUE;
    private static final int GREATEST = Integer.MAX_VALUE;
    private static final int Q1 = 0x40000000;
    private static final int Q2 = 0x80000000;
    private static final int Q3 = 0xC0000000;

    private CompressedSentences() {
    }

    static void tests(Sentences s) {
        s.run(CompressedSentences::sets);
        s.run(CompressedSentences::treatment);
        s.run(CompressedSentences::sameAnswersWithTheFewest);
        s.run(CompressedSentences::numbersAndParents);
        s.run(CompressedSentences::compressed);
        s.run(CompressedSentences::entry);
        s.run(CompressedSentences::wrongEntryNumbers);
        s.run(CompressedSentences::busiest);
        s.run(CompressedSentences::without);
        s.run(CompressedSentences::costliest);
    }

    private static ForwardingTable with(int... routes) {
        ForwardingTable x = new ForwardingTable();
        for (int i = 0; i < routes.length; i += 3) {
            x.addRoute(routes[i], routes[i + 1], routes[i + 2]);
        }
        return x;
    }

    private static void entries(Sentences s, String due, int... routes) {
        ForwardingTable x = with(routes);
        s.due("the entries of " + Texts.report(x, 0).replace("\n", "; "), Texts.report(x, 1), due);
    }

    private static void sets(Sentences s) {
        s.says("section 3", "For a prefix P, if no route lies properly inside P, all addresses in P have the same answer, "
                + "and the set S(P) contains this hop only.");
        entries(s, "");
        entries(s, "0.0.0.0/0 5\n", 0, 0, 5);
        entries(s, "0.0.0.0/0 15\n", 0, 0, 15);
        entries(s, "255.255.255.255/32 3\n", -1, 32, 3);
        entries(s, "0.0.0.0/32 3\n", 0, 32, 3);
        entries(s, "128.0.0.0/1 4\n", Q2, 1, 4);
        // No route lies inside the upper half: what is around it is its answer.
        entries(s, "0.0.0.0/0 1\n0.0.0.0/1 2\n", 0, 0, 1, 0, 1, 2, 0, 2, 2);

        s.says("section 3", "Otherwise P has two halves (the prefixes inside P that are longer by 1);");
        entries(s, "0.0.0.6/31 14\n0.0.0.6/32 15\n", 6, 32, 15, 7, 32, 14);
        entries(s, "255.255.255.254/31 14\n255.255.255.255/32 15\n", -2, 32, 14, -1, 32, 15);
        entries(s, "0.0.0.0/0 1\n128.0.0.0/1 2\n", 0, 1, 1, Q2, 1, 2);
        // In the upper half of all, the one half has the hop 1 and the other one has no route.
        entries(s, "0.0.0.0/0 1\n192.0.0.0/2 0\n", 0, 2, 1, Q1, 2, 1, Q2, 2, 1);
        // A route of length 32 in a table of length 0: 32 prefixes are halved on the way.
        entries(s, "0.0.0.0/0 1\n255.255.255.255/32 2\n", 0, 0, 1, -1, 32, 2);
        // The first route does not begin where the prefix around both begins.
        entries(s, "0.0.0.0/30 5\n0.0.0.0/32 0\n", 1, 32, 5, 2, 31, 5);
        // Routes in both halves of each prefix down to the length 32.
        int[] routes = new int[99];
        for (int length = 0; length <= 32; length++) {
            routes[3 * length] = length == 0 ? 0 : 1 << (32 - length);
            routes[3 * length + 1] = length;
            routes[3 * length + 2] = length % 2;
        }
        s.due("compressed() of 33 routes beside each other", with(routes).compressed(), 16);

        s.says("section 3", "S(P) is the set of the hops that are in the sets of both halves, or, if there are none, of the "
                + "hops that are in the set of at least one of them.");
        entries(s, "0.0.0.0/0 2\n0.0.0.0/2 1\n192.0.0.0/2 3\n", 0, 2, 1, Q1, 2, 2, Q2, 2, 2, Q3, 2, 3);
        entries(s, "0.0.0.0/0 1\n64.0.0.0/2 2\n128.0.0.0/2 2\n", 0, 2, 1, Q1, 2, 2, Q2, 2, 2, Q3, 2, 1);
        entries(s, "0.0.0.0/0 1\n64.0.0.0/2 2\n128.0.0.0/1 3\n192.0.0.0/2 4\n", 0, 2, 1, Q1, 2, 2, Q2, 2, 3, Q3, 2, 4);
        // On one object: what was in a set before is in it no more.
        ForwardingTable x = with(0, 1, 1, Q2, 1, 2);
        s.due("entries", Texts.report(x, 1), "0.0.0.0/0 1\n128.0.0.0/1 2\n");
        x.addRoute(0, 1, 3);
        x.addRoute(Q2, 1, 4);
        s.due("entries of other hops", Texts.report(x, 1), "0.0.0.0/0 3\n128.0.0.0/1 4\n");
        // The hop 15 is in both sets, the smaller ones are in one.
        entries(s, "0.0.0.0/0 15\n64.0.0.0/2 1\n192.0.0.0/2 2\n", 0, 2, 15, Q1, 2, 1, Q2, 2, 15, Q3, 2, 2);
    }

    private static void treatment(Sentences s) {
        s.says("section 3", "Starting with the prefix of length 0 and the inherited hop 0, each prefix P is treated in this "
                + "way: if the inherited hop is in S(P), there is no entry for P; otherwise there is an entry for P with the "
                + "smallest hop in S(P), and this becomes the inherited hop.");
        entries(s, "", 0, 0, 0);
        entries(s, "", -1, 32, 0);
        entries(s, "128.0.0.0/1 2\n", 0, 1, 0, Q2, 1, 2);
        entries(s, "0.0.0.0/1 2\n", 0, 1, 2, Q2, 1, 0);
        entries(s, "0.0.0.0/0 14\n0.0.0.0/1 15\n", 0, 1, 15, Q2, 1, 14);
        entries(s, "0.0.0.0/1 1\n", 0, 0, 1, Q2, 1, 0, Q3, 2, 0, Q1, 2, 1, 0, 2, 1, 32, 32, 1);
        entries(s, "0.0.0.0/0 1\n192.0.0.0/2 0\n", 0, 0, 1, Q3, 2, 0);
        // The inherited hop 3 is in the set of the upper half, so that its smaller hop 2 gives no entry.
        entries(s, "0.0.0.0/0 3\n192.0.0.0/2 2\n", 0, 1, 3, Q2, 2, 3, Q3, 2, 2);

        s.says("section 3", "If a route lies properly inside P, both halves are then treated with this inherited hop.");
        entries(s, "0.0.0.0/0 1\n64.0.0.0/2 2\n192.0.0.0/2 2\n", 0, 2, 1, Q1, 2, 2, Q2, 2, 1, Q3, 2, 2);
        entries(s, "0.0.0.0/0 1\n0.0.0.0/32 2\n255.255.255.255/32 2\n", 0, 0, 1, 0, 32, 2, -1, 32, 2);
        // A route that is P itself lies not properly inside P: there are no halves to treat.
        entries(s, "10.0.0.0/8 1\n", Texts.ip(10, 0, 0, 0), 8, 1);
    }

    /** Whether fewer entries of the first three bits, with these hops, can give the same answers. */
    private static boolean isPossible(int[] answers, int[] hops, int[] lengths, int from, int left) {
        boolean same = true;
        for (int i = 0; i < 8 && same; i++) {
            same = answers[i] == hops[i];
        }
        if (same || left == 0) {
            return same;
        }
        for (int prefix = from; prefix < 15; prefix++) {
            int length = 31 - Integer.numberOfLeadingZeros(prefix + 1);
            int size = 8 >> length;
            int first = (prefix + 1 - (1 << length)) * size;
            for (int hop = 0; hop < 3; hop++) {
                int[] newHops = hops.clone();
                int[] newLengths = lengths.clone();
                for (int i = first; i < first + size; i++) {
                    if (length >= newLengths[i]) {
                        newHops[i] = hop;
                        newLengths[i] = length;
                    }
                }
                if (isPossible(answers, newHops, newLengths, prefix + 1, left - 1)) {
                    return true;
                }
            }
        }
        return false;
    }

    private static int byEntries(ForwardingTable x, long address) {
        int hop = 0;
        long longest = -1;
        int n = x.compressed();
        for (int i = 0; i < n; i++) {
            long first = x.entry(i, 0);
            long length = x.entry(i, 1);
            if (address >= first && address < first + (1L << (32 - length)) && length > longest) {
                longest = length;
                hop = (int) x.entry(i, 2);
            }
        }
        return hop;
    }

    private static void sameAnswersWithTheFewest(Sentences s) {
        s.says("section 3", "(So the answer for each address is the hop of the longest entry that contains it, or 0 without "
                + "one; and no table with this property has fewer entries.)");
        s.due("byEntries without one", byEntries(new ForwardingTable(), 0), 0);
        Random random = new Random(5);
        for (int run = 0; run < 60; run++) {
            ForwardingTable x = new ForwardingTable();
            for (int i = run % 9; i >= 0; i--) {
                int length = random.nextInt(4);
                x.addRoute(length == 0 ? 0 : random.nextInt() >>> (32 - length) << (32 - length), length, random.nextInt(3));
            }
            int[] answers = new int[8];
            for (int i = 0; i < 8; i++) {
                answers[i] = x.answer(i << 29);
                s.due("run " + run + ", the first address of " + i, byEntries(x, (long) i << 29), answers[i]);
                s.due("run " + run + ", the last address of " + i, byEntries(x, ((i + 1L) << 29) - 1), answers[i]);
            }
            int n = x.compressed();
            if (n > 0 && n < 6) {
                s.due("run " + run + ", a table with fewer entries", isPossible(answers, new int[8],
                        new int[8], 0, n - 1), false);
            }
        }
        s.due("compressed() of sixty routes is not more", Texts.full().compressed(), 60);
    }

    private static void numbersAndParents(Sentences s) {
        ForwardingTable x = Texts.loaded("capacity 8;route 255.255.255.255/32 hop 5;route 10.0.0.0/8 hop 1;"
                + "route 10.0.0.0/16 hop 2;route 10.0.0.0/24 hop 3;route 10.2.0.0/16 hop 4;route 128.0.0.0/8 hop 6;");
        s.says("section 3", "Entries are numbered from 0 in the order of their prefixes.");
        s.due("entries", Texts.report(x, 1), "10.0.0.0/8 1\n10.0.0.0/16 2\n10.0.0.0/24 3\n10.2.0.0/16 4\n128.0.0.0/8 6\n"
                + "255.255.255.255/32 5\n");
        s.due("entry(0, 1)", x.entry(0, 1), 8);
        s.due("entry(5, 0)", x.entry(5, 0), 4294967295L);

        s.says("section 3", "The parent of an entry is the longest entry in which it lies properly inside.");
        long[] parents = {NOT_FOUND, 0, 1, 0, NOT_FOUND, NOT_FOUND};
        for (int i = 0; i < parents.length; i++) {
            s.due("entry(" + i + ", 3)", x.entry(i, 3), parents[i]);
        }
        s.due("entry(2, 3) just behind another one", with(0, 2, 1, Q1, 2, 2, Q2, 2, 2, Q3, 2, 1).entry(2, 3), 0);
        // Each inside the one before, at most as many as the hops let there be.
        ForwardingTable y = new ForwardingTable();
        for (int length = 0; length < 15; length++) {
            y.addRoute(0, 2 * length + 4, length + 1);
        }
        s.due("compressed()", y.compressed(), 15);
        for (int i = 0; i < 15; i++) {
            s.due("entry(" + i + ", 3) of a chain", y.entry(i, 3), i == 0 ? NOT_FOUND : i - 1);
        }
        // The parent of the last entry is the first one, over all between them.
        s.due("entry(2, 3) inside the whole", with(0, 0, 1, 0, 8, 2, -1, 32, 2).entry(2, 3), 0);
    }

    private static void compressed(Sentences s) {
        s.says("promise 18", "Returns the number of entries of the compressed table.");
        s.due("compressed() of a new table", new ForwardingTable().compressed(), 0);
        s.due("compressed() of routes with the hop 0", with(0, 0, 0, 0, 8, 0, -1, 32, 0).compressed(), 0);
        s.due("compressed() of sixty", Texts.full().compressed(), 60);
        ForwardingTable x = new ForwardingTable();
        for (int i = 0; i < 32; i++) {
            x.addRoute(i << 27, 5, 9);
        }
        s.due("compressed() of 32 that are one", x.compressed(), 1);
        x.removeRoute(31 << 27, 5);
        s.due("compressed() without the last of them", x.compressed(), 2);
    }

    private static void entry(Sentences s) {
        s.says("promise 19", "`i`: number of an entry of the compressed table");
        s.due("entry(0, 0) of sixty", Texts.full().entry(0, 0), 0);
        s.due("entry(59, 0) of sixty", Texts.full().entry(59, 0), 59L << 24);

        s.says("promise 19", "`what`: 0 the value of its prefix (0 to 4294967295), 1 the length, 2 the hop, 3 its parent "
                + "(NOT_FOUND without one), 4 its hits, 5 whether it is kept in the best choice (1 or 0)");
        ForwardingTable x = Texts.loaded("capacity 1;route 0.0.0.0/0 hop 15;route 255.255.255.255/32 hop 0;"
                + "seen 255.255.255.255 times 7;");
        long[][] due = {{0, 0, 15, NOT_FOUND, 0, 0}, {4294967295L, 32, 0, 0, 7, 1}};
        for (int i = 0; i < 2; i++) {
            for (int what = 0; what < 6; what++) {
                s.due("entry(" + i + ", " + what + ")", x.entry(i, what), due[i][what]);
            }
        }
        ForwardingTable y = new ForwardingTable();
        y.addRoute(0, 0, 1);
        for (int i = 0; i < 101; i++) {
            y.packet(i % 2, 9999);
        }
        s.due("entry(0, 4) of two addresses", y.entry(0, 4), 101 * 9999);
    }

    private static void wrongEntryNumbers(Sentences s) {
        s.says("promise 19", "NOT_FOUND if there is no such entry;");
        for (int what = 0; what < 6; what++) {
            s.due("entry(0, " + what + ") of a new table", new ForwardingTable().entry(0, what), NOT_FOUND);
            s.due("entry(1, " + what + ") of one", with(0, 0, 1).entry(1, what), NOT_FOUND);
            s.due("entry(1, " + what + ") of two routes that are one", with(0, 0, 1, 0, 1, 1).entry(1, what), NOT_FOUND);
            s.due("entry(60, " + what + ") of sixty", Texts.full().entry(60, what), NOT_FOUND);
            s.due("entry(greatest int, " + what + ")", Texts.busy().entry(GREATEST, what), NOT_FOUND);
        }

        s.says("promise 19", "INVALID for a negative i or any other what.");
        s.invalid("entry(-1, 0)", t -> t.entry(-1, 0));
        s.invalid("entry(-1, 5)", t -> t.entry(-1, 5));
        s.invalid("entry(least int, 4)", t -> t.entry(LEAST, 4));
        s.invalid("entry(0, -1)", t -> t.entry(0, -1));
        s.invalid("entry(0, 6)", t -> t.entry(0, 6));
        s.invalid("entry(99, 6)", t -> t.entry(99, 6));
        s.invalid("entry(0, least int)", t -> t.entry(0, LEAST));
        s.invalid("entry(0, greatest int)", t -> t.entry(0, GREATEST));
    }

    private static void busiest(Sentences s) {
        s.says("promise 21", "Returns the entry of the compressed table with the most hits, among several the smallest;");
        String routes = "capacity 8;route 1.0.0.0/8 hop 1;route 3.0.0.0/8 hop 2;route 5.0.0.0/8 hop 3;";
        s.due("busiest(): the last", Texts.loaded(routes + "seen 1.0.0.0 times 1;seen 5.0.0.0 times 2;").busiest(), 2);
        s.due("busiest(): the first", Texts.loaded(routes + "seen 1.0.0.0 times 2;seen 5.0.0.0 times 1;").busiest(), 0);
        s.due("busiest() of two", Texts.loaded(routes + "seen 5.0.0.0 times 3;seen 3.0.0.0 times 3;").busiest(), 1);
        s.due("busiest() of three", Texts.loaded(routes + "seen 5.0.0.0 times 9;seen 3.0.0.0 times 9;"
                + "seen 1.0.0.0 times 9;").busiest(), 0);
        s.due("busiest() with two addresses", Texts.loaded(routes + "seen 1.0.0.0 times 3;seen 5.0.0.0 times 2;"
                + "seen 5.0.0.1 times 2;").busiest(), 2);
        s.due("busiest() of sixty", Texts.full().busiest(), 5);

        s.says("promise 21", "NOT_FOUND if there is none with hits.");
        s.due("busiest() of a new table", new ForwardingTable().busiest(), NOT_FOUND);
        s.due("busiest() without a log", Texts.loaded(routes).busiest(), NOT_FOUND);
        s.due("busiest() with hits of no entry", Texts.loaded(routes + "seen 2.0.0.0 times 999;").busiest(), NOT_FOUND);
        s.due("busiest() without entries", Texts.loaded("capacity 8;seen 2.0.0.0 times 999;").busiest(), NOT_FOUND);
        s.due("busiest() with one hit", Texts.loaded(routes + "seen 3.0.0.0 times 1;").busiest(), 1);
    }

    private static void without(Sentences s) {
        ForwardingTable x = with(0, 1, 1, Q2, 1, 1, Q2, 8, 2);
        s.says("promise 45", "`i`: number of a route");
        s.due("compressedWithout(0)", x.compressedWithout(0), 2);
        s.due("compressedWithout(2), the last", x.compressedWithout(2), 1);
        s.due("compressedWithout(59) of sixty", Texts.full().compressedWithout(59), 59);

        s.says("promise 45", "Returns the number of entries that the compressed table would have without this route;");
        s.due("compressedWithout(0) of the only one", with(0, 0, 9).compressedWithout(0), 0);
        s.due("compressedWithout(1) is not as with the hop 0", with(0, 0, 1, Q2, 8, 2).compressedWithout(1), 1);
        s.due("compressedWithout(0) of one with the hop 0", with(0, 0, 0).compressedWithout(0), 0);
        s.due("compressedWithout(1): more than with it", with(0, 2, 1, Q1, 2, 1, Q2, 2, 1, Q3, 2, 1).compressedWithout(1), 2);
        s.due("compressed() stays", x.compressed(), 2);
        s.due("routes() stay", x.routes(), 3);

        s.says("promise 45", "NOT_FOUND if there is no such route;");
        s.due("compressedWithout(0) of a new table", new ForwardingTable().compressedWithout(0), NOT_FOUND);
        s.due("compressedWithout(3) of three", x.compressedWithout(3), NOT_FOUND);
        s.due("compressedWithout(60) of sixty", Texts.full().compressedWithout(60), NOT_FOUND);
        s.due("compressedWithout(greatest int)", x.compressedWithout(GREATEST), NOT_FOUND);

        s.says("promise 45", "INVALID for a negative i.");
        s.invalid("compressedWithout(-1)", t -> t.compressedWithout(-1));
        s.invalid("compressedWithout(least int)", t -> t.compressedWithout(LEAST));
        s.due("INVALID", x.compressedWithout(-2), INVALID);
    }

    private static void costliest(Sentences s) {
        s.says("promise 46", "Finds the route without which the compressed table would have the fewest entries.");
        // Without 10/7, its two halves with the hop 0 need no entries.
        s.due("costliest()", Texts.loaded("capacity 2;route 9.0.0.0/8 hop 1;route 10.0.0.0/7 hop 2;"
                + "route 10.0.0.0/9 hop 0;route 11.0.0.0/9 hop 0;route 99.0.0.0/8 hop 1;").costliest(), 1);
        // Without the last one there are two entries, without each other one there are three.
        s.due("costliest(), the last", with(0, 1, 1, Q2, 1, 1, -1, 32, 2, Q2, 32, 1).costliest(), 3);

        s.says("promise 46", "Returns the route, among several the smallest;");
        s.due("costliest() of sixty equals", Texts.full().costliest(), 0);
        s.due("costliest() of one", with(0, 0, 0).costliest(), 0);
        s.due("costliest() of two that count nothing", with(0, 0, 0, -1, 32, 0).costliest(), 0);

        s.says("promise 46", "NOT_FOUND if there are no routes.");
        s.due("costliest() of a new table", new ForwardingTable().costliest(), NOT_FOUND);
        ForwardingTable x = with(0, 0, 1);
        x.removeRoute(0, 0);
        s.due("costliest() of none left", x.costliest(), NOT_FOUND);
    }
}
