/** The sentences of section 5 and of promises 22 to 28: the best choice and the target. */
final class TargetSentences {
    private static final int INVALID = ForwardingTable.INVALID;
    private static final int NOT_FOUND = ForwardingTable.NOT_FOUND;
    private static final int LEAST = Integer.MIN_VALUE;
    private static final int GREATEST = Integer.MAX_VALUE;

    /** Entries 0 10/8, 1 10.1/16, 2 10.1.2/24 inside it, 3 10.2/16. */
    private static final String NESTED = "route 10.0.0.0/8 hop 1;route 10.1.0.0/16 hop 2;route 10.1.2.0/24 hop 3;"
            + "route 10.2.0.0/16 hop 4;";
    /** Entries 0 to 3, none inside another one. */
    private static final String BESIDE = "route 1.0.0.0/8 hop 1;route 3.0.0.0/8 hop 2;route 5.0.0.0/8 hop 3;"
            + "route 7.0.0.0/8 hop 4;";

    private TargetSentences() {
    }

    static void tests(Sentences s) {
        s.run(TargetSentences::exceptionsAndPlaces);
        s.run(TargetSentences::lostHitsOfAChoice);
        s.run(TargetSentences::bestChoice);
        s.run(TargetSentences::target);
        s.run(TargetSentences::coldest);
        s.run(TargetSentences::sizes);
        s.run(TargetSentences::tellingTheTarget);
        s.run(TargetSentences::lostHits);
        s.run(TargetSentences::enough);
    }

    private static ForwardingTable nested(int capacity, int a, int b, int c, int d) {
        StringBuilder text = new StringBuilder("capacity ").append(capacity).append(';').append(NESTED);
        String[] seen = {"10.9.0.0", "10.1.1.1", "10.1.2.3", "10.2.0.0"};
        int[] times = {a, b, c, d};
        for (int i = 0; i < 4; i++) {
            if (times[i] > 0) {
                text.append("seen ").append(seen[i]).append(" times ").append(times[i]).append(';');
            }
        }
        return Texts.loaded(text.toString());
    }

    private static ForwardingTable beside(int capacity, int... times) {
        StringBuilder text = new StringBuilder("capacity ").append(capacity).append(';').append(BESIDE);
        for (int i = 0; i < 4; i++) {
            if (times[i] > 0) {
                text.append("seen ").append(2 * i + 1).append(".0.0.0 times ").append(times[i]).append(';');
            }
        }
        return Texts.loaded(text.toString());
    }

    private static String kept(ForwardingTable x) {
        StringBuilder text = new StringBuilder();
        int n = x.compressed();
        for (int i = 0; i < n; i++) {
            text.append(x.entry(i, 5));
        }
        return text.toString();
    }

    /** Sixty entries: one around all others, or none inside another one. */
    private static ForwardingTable sixty(int capacity, boolean around) {
        ForwardingTable x = new ForwardingTable();
        x.setCapacity(capacity);
        x.addRoute(around ? 0 : -1, around ? 0 : 32, 15);
        for (int i = 0; i < 59; i++) {
            x.addRoute(Texts.ip(4 * i + 1, 0, 0, 0), 8, 1 + i % 14);
        }
        return x;
    }

    private static void exceptionsAndPlaces(Sentences s) {
        s.says("section 5", "For each entry that is not kept, but whose parent is kept, there is an exception with its prefix.");
        // 10.1/16 is an exception in 10/8; 10.1.2/24 is not kept either, but its parent is not kept.
        ForwardingTable x = nested(3, 100, 1, 1, 9);
        s.due("kept", kept(x), "1001");
        s.due("target", Texts.report(x, 2), "10.0.0.0/8 1\n10.1.0.0/16 x\n10.2.0.0/16 4\n");
        // Neither an entry without a parent nor one whose parent is not kept is an exception.
        s.due("target of one inside", Texts.report(nested(1, 1, 1, 9, 1), 2), "10.1.2.0/24 3\n");
        s.due("exceptions()", nested(1, 1, 1, 9, 1).exceptions(), 0);
        s.due("target beside", Texts.report(beside(1, 0, 0, 5, 4), 2), "5.0.0.0/8 3\n");

        s.says("section 5", "The kept entries and the exceptions are the places of a choice; their number must not exceed the "
                + "capacity (1 to 40).");
        // 10/8 needs three places, with one exception or with two.
        s.due("targetSize() with 3", nested(3, 100, 1, 1, 9).targetSize(), 3);
        s.due("kept with 2", kept(nested(2, 100, 1, 1, 9)), "0011");
        s.due("targetSize() with 2", nested(2, 100, 1, 1, 9).targetSize(), 2);
        s.due("targetSize() with 1", nested(1, 100, 1, 1, 9).targetSize(), 1);
        ForwardingTable y = sixty(40, false);
        for (int i = 0; i < 40; i++) {
            y.packet(Texts.ip(4 * i + 1, 0, 0, 0), 1);
        }
        s.due("targetSize() with 40, at the most", y.targetSize(), 40);
        y.setCapacity(39);
        s.due("targetSize() with 39", y.targetSize(), 39);
        y.setCapacity(1);
        s.due("targetSize() with 1, at the least", y.targetSize(), 1);
        // One around all others would need sixty places.
        ForwardingTable z = sixty(40, true);
        z.packet(0, 9999);
        s.due("targetSize() without places enough", z.targetSize(), 0);
    }

    private static void lostHitsOfAChoice(Sentences s) {
        s.says("section 5", "The lost hits are the sum of the hits of all entries that are not kept.");
        s.due("lostHits() of all", nested(4, 8, 4, 2, 1).lostHits(), 0);
        // Not kept are an exception and the one inside it.
        s.due("kept with 3", kept(nested(3, 8, 4, 2, 1)), "1001");
        s.due("lostHits() with 3", nested(3, 8, 4, 2, 1).lostHits(), 6);
        s.due("lostHits() with 1", beside(1, 8, 4, 2, 1).lostHits(), 7);
        s.due("lostHits() of an entry with two addresses", Texts.loaded("capacity 1;" + BESIDE + "seen 1.0.0.0 times 4;"
                + "seen 1.0.0.1 times 5;seen 3.0.0.0 times 5;seen 3.0.0.1 times 3;").lostHits(), 8);
        // What is no hit of an entry cannot be lost.
        s.due("lostHits() without entries", Texts.loaded("capacity 1;seen 9.0.0.0 times 9;").lostHits(), 0);
    }

    private static void bestChoice(Sentences s) {
        s.says("section 5", "The best choice is the one with the fewest lost hits; among several the one with the fewest places; "
                + "among several of these, of the entries that are kept in some but not in all of them, the one with the "
                + "smallest number is kept (and then the same is applied again).");
        // Fewest lost hits, though with more places.
        s.due("kept: fewest lost hits", kept(nested(3, 9, 0, 0, 0)), "1001");
        s.due("kept: fewest lost hits", kept(beside(4, 1, 2, 3, 4)), "1111");
        // Fewest places: entries without hits are not kept where they would take a place.
        s.due("kept: fewest places", kept(beside(4, 0, 1, 0, 0)), "0100");
        s.due("kept: none without hits", kept(beside(4, 0, 0, 0, 0)), "0000");
        // With 5 hits lost, 10.1.2/24 and 10.2/16 take two places, 10.1/16 and 10.1.2/24 take two.
        s.due("kept: the smallest number", kept(nested(2, 0, 5, 5, 5)), "0110");
        s.due("kept: and then again", kept(beside(2, 5, 5, 5, 5)), "1100");
        s.due("kept: and then again", kept(beside(3, 5, 5, 5, 5)), "1110");
        s.due("kept: the last two are equal", kept(beside(2, 0, 6, 5, 5)), "0110");
        // An exception and a kept entry take one place each: the one without hits is kept.
        s.due("kept: inside a kept one, without hits", kept(nested(8, 9, 0, 0, 0)), "1001");
        s.due("kept: inside a kept one, down to the last", kept(nested(8, 9, 1, 0, 0)), "1111");
        // Of sixty entries, the numbers 59 and 58 are equal.
        ForwardingTable x = sixty(1, false);
        x.packet(-1, 3);
        x.packet(Texts.ip(233, 0, 0, 0), 3);
        s.due("entry(58, 5) of sixty", x.entry(58, 5), 1);
        s.due("entry(59, 5) of sixty", x.entry(59, 5), 0);
        x.packet(-1, 1);
        s.due("entry(58, 5) of sixty, with fewer hits", x.entry(58, 5), 0);
        s.due("entry(59, 5) of sixty, with more hits", x.entry(59, 5), 1);
    }

    private static void target(Sentences s) {
        s.says("section 5", "The target consists of the places of the best choice, in the order of their prefixes: the kept "
                + "entries with their hops and the exceptions.");
        s.due("target of none", Texts.report(new ForwardingTable(), 2), "");
        s.due("target with 4", Texts.report(nested(4, 8, 4, 2, 1), 2),
                "10.0.0.0/8 1\n10.1.0.0/16 2\n10.1.2.0/24 3\n10.2.0.0/16 4\n");
        s.due("target with 3", Texts.report(nested(3, 8, 4, 2, 1), 2), "10.0.0.0/8 1\n10.1.0.0/16 x\n10.2.0.0/16 4\n");
        s.due("target with 2", Texts.report(nested(2, 8, 4, 2, 1), 2), "10.1.0.0/16 2\n10.1.2.0/24 3\n");
        s.due("target with the hops 0 and 15", Texts.report(Texts.loaded("capacity 2;route 0.0.0.0/0 hop 15;"
                + "route 255.255.255.255/32 hop 0;seen 0.0.0.0 times 1;"), 2), "0.0.0.0/0 15\n255.255.255.255/32 0\n");
    }

    private static void coldest(Sentences s) {
        s.says("promise 22", "Returns of the entries that are kept in the best choice the one with the fewest hits, among "
                + "several the smallest;");
        s.due("coldest(), the last", beside(4, 4, 3, 2, 1).coldest(), 3);
        s.due("coldest(), the first", beside(4, 1, 2, 3, 4).coldest(), 0);
        s.due("coldest() of equals", beside(4, 4, 2, 2, 4).coldest(), 1);
        s.due("coldest() of those that are kept", beside(2, 1, 5, 4, 1).coldest(), 2);
        s.due("coldest() of one", beside(1, 0, 0, 0, 7).coldest(), 3);
        s.due("coldest() without hits inside a kept one", nested(8, 9, 0, 0, 5).coldest(), 3);
        s.due("coldest() of two without hits", nested(8, 9, 0, 5, 0).coldest(), 1);

        s.says("promise 22", "NOT_FOUND if none is kept.");
        s.due("coldest() of a new table", new ForwardingTable().coldest(), NOT_FOUND);
        s.due("coldest() without hits", beside(4, 0, 0, 0, 0).coldest(), NOT_FOUND);
        ForwardingTable x = sixty(40, true);
        x.packet(0, 9999);
        s.due("coldest() without places enough", x.coldest(), NOT_FOUND);
    }

    private static void sizes(Sentences s) {
        s.says("promise 23", "Returns the number of exceptions in the target.");
        s.due("exceptions() of a new table", new ForwardingTable().exceptions(), 0);
        s.due("exceptions() with 3", nested(3, 100, 1, 1, 9).exceptions(), 1);
        s.due("exceptions() with all kept", nested(4, 8, 4, 2, 1).exceptions(), 0);
        ForwardingTable shorter = nested(3, 100, 1, 1, 9);
        s.due("exceptions() with 3", shorter.exceptions(), 1);
        shorter.setCapacity(1);
        s.due("exceptions() of a target that became shorter", shorter.exceptions(), 0);
        // One around 29 others, each of which has an entry inside: kept, it has 29 exceptions.
        ForwardingTable x = new ForwardingTable();
        x.setCapacity(30);
        x.addRoute(0, 0, 15);
        for (int i = 0; i < 29; i++) {
            x.addRoute(Texts.ip(4 * i + 1, 0, 0, 0), 8, 1 + i % 14);
            x.addRoute(Texts.ip(4 * i + 1, 1, 0, 0), 16, 1 + (i + 1) % 14);
        }
        x.packet(0, 9);
        s.due("targetSize() of one with 29 exceptions", x.targetSize(), 30);
        s.due("exceptions() of one with 29 exceptions", x.exceptions(), 29);

        s.says("promise 24", "Returns the number of places of the target.");
        s.due("targetSize() of a new table", new ForwardingTable().targetSize(), 0);
        s.due("targetSize() without hits", beside(4, 0, 0, 0, 0).targetSize(), 0);
        s.due("targetSize() of one", beside(4, 0, 0, 0, 1).targetSize(), 1);
        s.due("targetSize() with an exception", nested(3, 100, 1, 1, 9).targetSize(), 3);
        x.setCapacity(40);
        for (int i = 0; i < 29; i++) {
            x.packet(Texts.ip(4 * i + 1, 0, 0, 0), 1);
        }
        s.due("targetSize() at the most", x.targetSize(), 40);
    }

    private static void tellingTheTarget(Sentences s) {
        ForwardingTable x = Texts.loaded("capacity 2;route 0.0.0.0/0 hop 15;route 255.255.255.255/32 hop 0;seen 0.0.0.0 times 1;");
        s.says("promise 25", "`i`: index of a place of the target, from 0");
        s.due("target(0, 1)", x.target(0, 1), 0);
        s.due("target(1, 1), the last", x.target(1, 1), 32);

        s.says("promise 25", "`what`: 0 the value of its prefix (0 to 4294967295), 1 the length, 2 the action");
        s.due("target(0, 0)", x.target(0, 0), 0);
        s.due("target(0, 2)", x.target(0, 2), 15);
        s.due("target(1, 0)", x.target(1, 0), 4294967295L);
        s.due("target(1, 2)", x.target(1, 2), 0);
        s.due("target(1, 2) of an exception", nested(3, 100, 1, 1, 9).target(1, 2), ForwardingTable.EXCEPTION);

        s.says("promise 25", "NOT_FOUND if there is no such place;");
        for (int what = 0; what < 3; what++) {
            s.due("target(0, " + what + ") of a new table", new ForwardingTable().target(0, what), NOT_FOUND);
            s.due("target(2, " + what + ") of two", x.target(2, what), NOT_FOUND);
            s.due("target(greatest int, " + what + ")", x.target(GREATEST, what), NOT_FOUND);
        }

        s.says("promise 25", "INVALID for a negative i or any other what.");
        s.invalid("target(-1, 0)", t -> t.target(-1, 0));
        s.invalid("target(least int, 2)", t -> t.target(LEAST, 2));
        s.invalid("target(0, -1)", t -> t.target(0, -1));
        s.invalid("target(0, 3)", t -> t.target(0, 3));
        s.invalid("target(99, 3)", t -> t.target(99, 3));
        s.invalid("target(0, greatest int)", t -> t.target(0, GREATEST));
    }

    private static void lostHits(Sentences s) {
        s.says("promise 26", "Returns the lost hits of the best choice.");
        s.due("lostHits() of a new table", new ForwardingTable().lostHits(), 0);
        s.due("lostHits() of none", beside(4, 8, 4, 2, 1).lostHits(), 0);
        s.due("lostHits() with one place less", beside(3, 8, 4, 2, 1).lostHits(), 1);
        ForwardingTable x = sixty(40, true);
        x.packet(0, 9999);
        s.due("lostHits() of all", x.lostHits(), 9999);

        s.says("promise 27", "`capacity`: 0 to 60");
        x.packet(Texts.ip(1, 0, 0, 0), 5);
        s.due("lostHitsWith(0)", x.lostHitsWith(0), 10004);
        s.due("lostHitsWith(60)", x.lostHitsWith(60), 0);
        s.due("lostHitsWith(59)", x.lostHitsWith(59), 9999);
        s.due("lostHitsWith(1)", x.lostHitsWith(1), 9999);

        s.says("promise 27", "Returns the lost hits of the best choice with that capacity;");
        s.due("lostHitsWith(0) of a new table", new ForwardingTable().lostHitsWith(0), 0);
        s.due("lostHitsWith(60) of a new table", new ForwardingTable().lostHitsWith(60), 0);
        int[] lost = {15, 7, 3, 1, 0, 0};
        for (int capacity = 0; capacity < lost.length; capacity++) {
            s.due("lostHitsWith(" + capacity + ")", beside(2, 8, 4, 2, 1).lostHitsWith(capacity), lost[capacity]);
        }
        ForwardingTable y = beside(2, 8, 4, 2, 1);
        y.lostHitsWith(4);
        s.due("capacity() stays", y.capacity(), 2);
        s.due("lostHits() stays", y.lostHits(), 3);
        s.due("targetSize() stays", y.targetSize(), 2);

        s.says("promise 27", "INVALID for an invalid argument.");
        for (int capacity : new int[] {-1, 61, LEAST, GREATEST}) {
            s.invalid("lostHitsWith(" + capacity + ")", t -> t.lostHitsWith(capacity));
        }
        s.due("INVALID", y.lostHitsWith(62), INVALID);
    }

    private static void enough(Sentences s) {
        s.says("promise 28", "Finds the smallest capacity with which no hits are lost.");
        s.due("enough() of three", beside(1, 1, 0, 1, 1).enough(), 3);
        s.due("enough() of one that has others inside", nested(1, 1, 0, 0, 0).enough(), 3);
        s.due("enough() of all", nested(1, 1, 1, 1, 1).enough(), 4);
        s.due("enough() of one inside", nested(1, 0, 0, 1, 0).enough(), 1);
        ForwardingTable x = nested(8, 1, 0, 0, 0);
        s.due("lostHitsWith of it", x.lostHitsWith(x.enough()), 0);
        s.due("lostHitsWith of one less", x.lostHitsWith(x.enough() - 1), 1);

        s.says("promise 28", "Returns the capacity, 0 to 60.");
        s.due("enough() of a new table", new ForwardingTable().enough(), 0);
        s.due("enough() without hits", beside(1, 0, 0, 0, 0).enough(), 0);
        s.due("enough() with hits of no entry", Texts.loaded("capacity 1;seen 9.0.0.0 times 9;").enough(), 0);
        ForwardingTable y = sixty(1, true);
        y.packet(0, 1);
        s.due("enough() at the most", y.enough(), 60);
    }
}
