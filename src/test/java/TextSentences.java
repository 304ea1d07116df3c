/** The sentences of section 7 and of promises 1 to 5 and 51: a new object, the tape, the text. */
final class TextSentences {
    private static final int INVALID = ForwardingTable.INVALID;
    private static final int NOT_FOUND = ForwardingTable.NOT_FOUND;
    private static final int SPACES = 0x20202020;

    private TextSentences() {
    }

    static void tests(Sentences s) {
        s.run(TextSentences::newObject);
        s.run(TextSentences::append);
        s.run(TextSentences::truncate);
        s.run(TextSentences::tokens);
        s.run(TextSentences::words);
        s.run(TextSentences::numbersAndSigns);
        s.run(TextSentences::grammar);
        s.run(TextSentences::ranges);
        s.run(TextSentences::errorPosition);
        s.run(TextSentences::refusedTokens);
        s.run(TextSentences::load);
        s.run(TextSentences::loadOfAnError);
        s.run(TextSentences::latestError);
    }

    private static void right(Sentences s, String text, int routes) {
        ForwardingTable x = new ForwardingTable();
        s.due("load() of " + text, Texts.load(x, text), routes);
        s.due("errorPosition() of " + text, x.errorPosition(), NOT_FOUND);
    }

    /** The sign ^ stands where the error position is due. */
    private static void wrong(Sentences s, String marked) {
        ForwardingTable x = new ForwardingTable();
        s.due("load() of " + marked, Texts.load(x, marked.replace("^", "")), INVALID);
        s.due("errorPosition() of " + marked, x.errorPosition(), marked.indexOf('^'));
    }

    private static String clauses(int routes, int seen) {
        StringBuilder text = new StringBuilder("capacity 8;");
        for (int i = 0; i < routes; i++) {
            text.append("route").append(i).append(".0.0.0/32hop1;");
        }
        for (int i = 0; i < seen; i++) {
            text.append("seen").append(i).append(".0.0.0times1;");
        }
        return text.toString();
    }

    private static ForwardingTable fullTape() {
        ForwardingTable x = new ForwardingTable();
        for (int i = 0; i < 110; i++) {
            x.append(SPACES, SPACES, SPACES, SPACES, SPACES);
        }
        return x;
    }

    private static void newObject(Sentences s) {
        s.says("promise 1", "Creates a table without routes, with the capacity 8, an empty log, an empty hardware table and an "
                + "empty tape.");
        ForwardingTable x = new ForwardingTable();
        s.due("routes()", x.routes(), 0);
        s.due("route(0, 0)", x.route(0, 0), NOT_FOUND);
        s.due("capacity()", x.capacity(), 8);
        s.due("logged()", x.logged(), 0);
        s.due("hardwareSize()", x.hardwareSize(), 0);
        s.due("tapeLength()", x.tapeLength(), 0);
        s.due("errorPosition()", x.errorPosition(), NOT_FOUND);
        s.due("undo()", x.undo(), INVALID);
        for (int what = 0; what < 5; what++) {
            s.due("count(" + what + ")", x.count(what), 0);
        }
        // One object knows nothing of another.
        Texts.busy();
        s.due("all of a table made behind another one", Texts.all(new ForwardingTable()), Texts.all(x));
    }

    private static void append(Sentences s) {
        s.says("promise 2", "Appends twenty bytes to the tape: the four bytes of a, most significant byte first, then those of "
                + "b, c, d and e.");
        ForwardingTable x = new ForwardingTable();
        x.append(0x63617061, 0x63697479, 0x31323b72, 0x6f757465, 0x312e322e);
        x.append(0x332e342f, 0x3332686f, 0x7031353b, 0x20202020, 0x0a0a0a0a);
        s.due("load()", x.load(), 1);
        s.due("capacity()", x.capacity(), 12);
        s.due("route(0, 0)", x.route(0, 0), 0x01020304);
        s.due("route(0, 2)", x.route(0, 2), 15);
        // Bytes from 128 on are no white space and no signs of a token.
        x.append(SPACES, 0x202020A0, SPACES, SPACES, SPACES);
        x.load();
        s.due("errorPosition() at the byte 160", x.errorPosition(), 7);

        String[] bytes = {"`a`: bytes 0 to 3", "`b`: bytes 4 to 7", "`c`: bytes 8 to 11", "`d`: bytes 12 to 15",
            "`e`: bytes 16 to 19"};
        for (int word = 0; word < 5; word++) {
            s.says("promise 2", bytes[word]);
            for (int at = 0; at < 4; at++) {
                int[] w = {SPACES, SPACES, SPACES, SPACES, SPACES};
                w[word] = SPACES ^ 1 << (24 - 8 * at);
                x.append(w[0], w[1], w[2], w[3], w[4]);
                x.load();
                s.due("errorPosition() at byte " + at + " of word " + word, x.errorPosition(), 4 * word + at);
            }
        }

        s.says("promise 2", "Returns the new length of the tape;");
        ForwardingTable y = new ForwardingTable();
        for (int i = 1; i <= 110; i++) {
            s.due("append no. " + i, y.append(i, -i, 0, -1, Integer.MIN_VALUE), 20 * i);
        }
        s.says("promise 2", "INVALID if it would exceed 2200 bytes (nothing is appended).");
        s.same("append to a full tape", TextSentences::fullTape, t -> t.append(0, 0, 0, 0, 0), INVALID);
        for (int n = 1; n < 20; n++) {
            ForwardingTable z = fullTape();
            z.truncate(n);
            s.due("append where " + n + " bytes are free", z.append(0, 0, 0, 0, 0), INVALID);
            s.due("tapeLength() where " + n + " bytes are free", z.tapeLength(), 2200 - n);
        }
        ForwardingTable w = fullTape();
        w.truncate(20);
        s.due("append where 20 bytes are free", w.append(0, 0, 0, 0, 0), 2200);
    }

    private static void truncate(Sentences s) {
        s.says("promise 3", "Removes the last bytes of the tape.");
        ForwardingTable x = new ForwardingTable();
        x.append(Texts.word("capa", 0), Texts.word("city", 0), Texts.word(" 11;", 0), Texts.word("rout", 0), SPACES);
        x.truncate(8);
        s.due("load() of what is left", x.load(), 0);
        s.due("capacity()", x.capacity(), 11);
        x.append(Texts.word("capa", 0), Texts.word("city", 0), Texts.word(" 111", 0), SPACES, SPACES);
        x.truncate(9);
        x.load();
        s.due("errorPosition() behind a number that was cut", x.errorPosition(), 11);
        x.append(SPACES, SPACES, SPACES, Texts.word("capa", 0), Texts.word("city", 0));
        x.append(Texts.word("yyyy", 0), SPACES, SPACES, SPACES, SPACES);
        x.truncate(20);
        x.load();
        s.due("errorPosition() behind a word that was cut", x.errorPosition(), 20);

        s.says("promise 3", "`n`: number of bytes, 0 to the length of the tape");
        s.due("truncate(0) of an empty tape", new ForwardingTable().truncate(0), 0);
        s.due("truncate(0) of a full tape", fullTape().truncate(0), 2200);
        s.due("truncate(2200) of a full tape", fullTape().truncate(2200), 0);
        s.due("truncate(1) of a full tape", fullTape().truncate(1), 2199);

        s.says("promise 3", "Returns the new length of the tape;");
        ForwardingTable y = fullTape();
        s.due("truncate(7)", y.truncate(7), 2193);
        s.due("truncate(2192)", y.truncate(2192), 1);
        s.due("truncate(1)", y.truncate(1), 0);

        s.says("promise 3", "INVALID if n is out of range.");
        s.same("truncate(1) of an empty tape", ForwardingTable::new, t -> t.truncate(1), INVALID);
        s.same("truncate(2201) of a full tape", TextSentences::fullTape, t -> t.truncate(2201), INVALID);
        s.same("truncate(13) of 12 bytes", Texts::busy, t -> t.truncate(13), INVALID);
        s.invalid("truncate(-1)", t -> t.truncate(-1));
        s.invalid("truncate(least int)", t -> t.truncate(Integer.MIN_VALUE));
        s.invalid("truncate(greatest int)", t -> t.truncate(Integer.MAX_VALUE));

        s.says("promise 51", "Returns the length of the tape.");
        s.due("tapeLength() of a new table", new ForwardingTable().tapeLength(), 0);
        s.due("tapeLength() of a full tape", fullTape().tapeLength(), 2200);
        ForwardingTable z = fullTape();
        z.append(0, 0, 0, 0, 0);
        s.due("tapeLength() behind one that is refused", z.tapeLength(), 2200);
        z.truncate(2201);
        s.due("tapeLength() behind another one", z.tapeLength(), 2200);
        z.truncate(2199);
        s.due("tapeLength() of one byte", z.tapeLength(), 1);
        z.load();
        s.due("tapeLength() behind load()", z.tapeLength(), 0);
    }

    private static void tokens(Sentences s) {
        s.says("section 7", "Tokens are formed greedily.");
        right(s, "capacity8;route1.0.0.0/8hop1;seen1.2.3.4times5;", 1);
        right(s, "capacity008;route100.200.030.004/032hop015;seen255.255.255.255times100;", 1);
        wrong(s, "^capacityroute 8;");
        wrong(s, "capacity 8;route 1.0.0.0/8 ^hops 1;");
        wrong(s, "capacity 8;^seenseen 1.0.0.0 times 1;");
        wrong(s, "capacity ^4111;");
        wrong(s, "capacity 4 ^1;");
        // A word or a number may end with the text.
        wrong(s, "capacity^");
        wrong(s, "capacity 8^");

        s.says("section 7", "White space (bytes 32 and 10) may stand between any two tokens.");
        right(s, "capacity 8 ; route 1 . 0 . 0 . 0 / 8 hop 1 ; seen 1 . 2 . 3 . 4 times 5 ;", 1);
        right(s, "capacity\n8\n;\nroute\n1\n.\n0\n.\n0\n.\n0\n/\n8\nhop\n1\n;\nseen\n1\n.\n2\n.\n3\n.\n4\ntimes\n5\n;", 1);
        right(s, "capacity  \n\n 8;" + " ".repeat(2000) + "route 1.0.0.0/8 hop 1;", 1);
        for (int b = 0; b < 256; b++) {
            if (b == 32 || b == 10) {
                right(s, "capacity 8" + (char) b + ";", 0);
            } else if ((b < '0' || b > '9') && b != ';' && b != '^') {
                wrong(s, "capacity 8^" + (char) b + ";");
            }
        }
        // It parts tokens, and is none itself.
        wrong(s, "^capa city 8;");
        wrong(s, "capacity 1 ^0;");
    }

    private static void words(Sentences s) {
        s.says("section 7", "A maximal run of the letters a to z is a word, which must be one of the quoted ones.");
        right(s, "capacity 8;", 0);
        wrong(s, "^capacit 8;");
        wrong(s, "^capacityy 8;");
        wrong(s, "^acapacity 8;");
        wrong(s, "^capacityz 8;");
        wrong(s, "^capacitya 8;");
        wrong(s, "^xapacity 8;");
        wrong(s, "capacity 8;^zoute 1.0.0.0/8 hop 1;");
        wrong(s, "capacity 8;^been 1.0.0.0 times 1;");
        wrong(s, "capacity 8;route 1.0.0.0/8 ^top 1;");
        wrong(s, "capacity 8;seen 1.0.0.0 ^dimes 1;");
        wrong(s, "^capacitz 8;");
        wrong(s, "^z 8;");
        wrong(s, "^a");
        wrong(s, "^Capacity 8;");
        wrong(s, "^cApacity 8;");
        wrong(s, "capacity^Z 8;");
        wrong(s, "capacity^` 8;");
        wrong(s, "capacity^{ 8;");
        wrong(s, "capacity 8;^rout 1.0.0.0/8 hop 1;");
        wrong(s, "capacity 8;^routes 1.0.0.0/8 hop 1;");
        wrong(s, "capacity 8;^router 1.0.0.0/8 hop 1;");
        wrong(s, "capacity 8;^see 1.0.0.0 times 1;");
        wrong(s, "capacity 8;^seem 1.0.0.0 times 1;");
        wrong(s, "capacity 8;route 1.0.0.0/8 ^ho 1;");
        wrong(s, "capacity 8;route 1.0.0.0/8 ^hoq 1;");
        wrong(s, "capacity 8;seen 1.0.0.0 ^time 1;");
        wrong(s, "capacity 8;seen 1.0.0.0 ^timed 1;");
    }

    private static void numbersAndSigns(Sentences s) {
        s.says("section 7", "A maximal run of digits is an INT, which has 1 to 3 digits.");
        right(s, "capacity 1;", 0);
        right(s, "capacity 01;", 0);
        right(s, "capacity 001;", 0);
        wrong(s, "capacity ^0001;");
        wrong(s, "capacity ^0000000000000000000000000000001;");
        wrong(s, "capacity ^;");
        wrong(s, "capacity ^4294967304;");
        wrong(s, "capacity ^18446744073709551624;");
        right(s, "capacity 8;seen 000.000.000.000 times 999;", 0);
        wrong(s, "capacity 8;seen 0.0.0.0 times ^0999;");
        wrong(s, "capacity 8;seen 0.0.0.^0000 times 999;");
        wrong(s, "capacity 8^/;");
        wrong(s, "capacity 8^:;");

        s.says("section 7", "The only other tokens are ; . and /");
        for (int b = 0; b < 256; b++) {
            boolean letterOrDigit = b >= 'a' && b <= 'z' || b >= '0' && b <= '9';
            if (!letterOrDigit && b != 32 && b != 10 && b != '^') {
                if (b == '/') {
                    right(s, "capacity 8;route 1.0.0.0" + (char) b + "8 hop 1;", 1);
                } else {
                    wrong(s, "capacity 8;route 1.0.0.0^" + (char) b + "8 hop 1;");
                }
            }
        }
        ForwardingTable x = new ForwardingTable();
        s.due("load() with the byte 94", Texts.load(x, "capacity 8^;"), INVALID);
        s.due("errorPosition() with the byte 94", x.errorPosition(), 10);
        wrong(s, "capacity 8;^;");
        wrong(s, "capacity 8^.");
    }

    private static void grammar(Sentences s) {
        s.says("section 7", "text = \"capacity\" INT \";\" { \"route\" INT \".\" INT \".\" INT \".\" INT \"/\" INT \"hop\" INT "
                + "\";\" } { \"seen\" INT \".\" INT \".\" INT \".\" INT \"times\" INT \";\" }");
        right(s, "capacity 8;", 0);
        right(s, "capacity 8;route 1.0.0.0/8 hop 1;", 1);
        right(s, "capacity 8;seen 1.0.0.0 times 1;", 0);
        right(s, "capacity 8;route 1.0.0.0/8 hop 1;route 2.0.0.0/8 hop 1;seen 1.0.0.0 times 1;seen 2.0.0.0 times 1;", 2);
        right(s, clauses(60, 40), 60);
        wrong(s, "^");
        wrong(s, "^route 1.0.0.0/8 hop 1;");
        wrong(s, "^seen 1.0.0.0 times 1;");
        wrong(s, "^;capacity 8;");
        wrong(s, "capacity 8;^capacity 8;");
        wrong(s, "capacity 8;seen 1.0.0.0 times 1;^route 1.0.0.0/8 hop 1;");
        wrong(s, "capacity 8;route 1.0.0.0/8 hop 1;^8");
        // Each token of the clauses, left out.
        String[] route = {"route ", "1", ".", "0", ".", "0", ".", "0", "/", "8", "hop ", "1", ";"};
        String[] seen = {"seen ", "1", ".", "0", ".", "0", ".", "0", "times ", "1", ";"};
        String[] capacity = {"capacity ", "8", ";"};
        leftOut(s, "capacity 8;", route);
        leftOut(s, "capacity 8;route 1.0.0.0/8 hop 1;", seen);
        leftOut(s, "", capacity);
        replaced(s, "capacity 8;", route);
        replaced(s, "capacity 8;route 1.0.0.0/8 hop 1;", seen);
        replaced(s, "", capacity);
    }

    /** A token of another kind cannot stand in the place of one; but either clause may begin. */
    private static void replaced(Sentences s, String before, String[] tokens) {
        String[] others = {"capacity", "route", "hop", "seen", "times", "1", ";", ".", "/", "?"};
        for (int at = 0; at < tokens.length; at++) {
            for (String other : others) {
                boolean isNumber = Character.isDigit(other.charAt(0)) && Character.isDigit(tokens[at].charAt(0));
                boolean begins = at == 0 && !before.isEmpty() && (other.equals("route") || other.equals("seen"));
                if (isNumber || begins || other.equals(tokens[at].strip())) {
                    continue;
                }
                StringBuilder text = new StringBuilder(before);
                for (int i = 0; i < tokens.length; i++) {
                    text.append(i == at ? "^" + other : tokens[i]).append(' ');
                }
                wrong(s, text.toString());
            }
        }
    }

    /** Where a token is left out, the next one cannot stand; white space keeps the others apart. */
    private static void leftOut(Sentences s, String before, String[] tokens) {
        for (int out = 0; out < tokens.length; out++) {
            StringBuilder text = new StringBuilder(before);
            for (int i = 0; i < tokens.length; i++) {
                if (i == out + 1) {
                    text.append('^');
                }
                if (i != out) {
                    text.append(tokens[i]).append(' ');
                }
            }
            wrong(s, out == tokens.length - 1 ? text.append('^').toString() : text.toString());
        }
    }

    private static void ranges(Sentences s) {
        s.says("section 7", "The first INT is the capacity (1 to 40).");
        s.due("capacity() of 1", Texts.loaded("capacity 1;").capacity(), 1);
        s.due("capacity() of 40", Texts.loaded("capacity 40;").capacity(), 40);
        wrong(s, "capacity ^0;");
        wrong(s, "capacity ^41;");
        wrong(s, "capacity ^999;");

        s.says("section 7", "Of a route, the first four INTs are the bytes of the value of its prefix (0 to 255), the most "
                + "significant one first; then come its length (0 to 32) and its hop.");
        ForwardingTable x = Texts.loaded("capacity 8;route 255.254.253.252/32 hop 15;route 0.0.0.0/0 hop 0;");
        s.due("routes", Texts.report(x, 0), "0.0.0.0/0 0\n255.254.253.252/32 15\n");
        s.due("route(1, 0)", x.route(1, 0), 0xFFFEFDFCL);
        wrong(s, "capacity 8;route ^256.0.0.0/8 hop 1;");
        wrong(s, "capacity 8;route 1.^256.0.0/8 hop 1;");
        wrong(s, "capacity 8;route 1.0.^256.0/8 hop 1;");
        wrong(s, "capacity 8;route 1.0.0.^256/8 hop 1;");
        wrong(s, "capacity 8;route 1.0.0.0/^33 hop 1;");
        wrong(s, "capacity 8;route 0.0.0.0/^33 hop 1;");
        wrong(s, "capacity 8;route 1.0.0.0/^64 hop 1;");
        wrong(s, "capacity 8;route 1.0.0.0/8 hop ^16;");
        wrong(s, "capacity 8;route 1.0.0.0/8 hop ^999;");

        s.says("section 7", "Of an address that was seen, the INTs are its four bytes likewise and its count in the log (1 to "
                + "999).");
        ForwardingTable y = Texts.loaded("capacity 8;seen 255.254.253.252 times 999;seen 0.0.0.0 times 1;");
        s.due("log", Texts.report(y, 4), "255.254.253.252 999\n0.0.0.0 1\n");
        wrong(s, "capacity 8;seen ^256.0.0.0 times 1;");
        wrong(s, "capacity 8;seen 1.^256.0.0 times 1;");
        wrong(s, "capacity 8;seen 1.0.^256.0 times 1;");
        wrong(s, "capacity 8;seen 1.0.0.^256 times 1;");
        wrong(s, "capacity 8;seen 1.0.0.0 times ^0;");
        wrong(s, "capacity 8;seen 1.0.0.0 times ^1000;");
    }

    private static void errorPosition(Sentences s) {
        s.says("section 7", "The error position is the index of the first byte of the first token that cannot stand where it "
                + "stands; it is the length of the text if the text ends too early.");
        // Of two that cannot stand, the first counts; of a long token, its first byte.
        wrong(s, "capacity ^0;route 256.0.0.0/8 hop 1;");
        wrong(s, "capacity 8;  \n ^timestimestimes");
        wrong(s, "  \n  ^?");
        wrong(s, "^");
        wrong(s, " \n ^");
        wrong(s, "capacity 8 \n ^");
        wrong(s, "capacity 8;route 1.0.0.0/8 hop 1^");
        wrong(s, "capacity 8;route 1.0.0.^");
        wrong(s, "capacity 8;seen 1.0.0.0 times   ^");
        // The last byte of a full tape, and its length.
        ForwardingTable x = fullTape();
        x.truncate(20);
        x.append(SPACES, SPACES, SPACES, SPACES, 0x2020203F);
        x.load();
        s.due("errorPosition() at the last byte of a full tape", x.errorPosition(), 2199);
        ForwardingTable y = fullTape();
        y.load();
        s.due("errorPosition() behind a full tape", y.errorPosition(), 2200);
    }

    private static void refusedTokens(Sentences s) {
        s.says("section 7", "The following tokens cannot stand, either: an INT out of range; the length of a prefix that has a "
                + "bit 1 behind its first bits of that number, or that an earlier route has; the last byte of an address that "
                + "was seen in an earlier clause; the word of a 61st \"route\" or of a 41st \"seen\".");
        wrong(s, "capacity ^41;");
        wrong(s, "capacity 8;route 1.0.0.0/^7 hop 1;");
        right(s, "capacity 8;route 1.0.0.0/8 hop 1;", 1);
        wrong(s, "capacity 8;route 255.255.255.255/^31 hop 1;");
        wrong(s, "capacity 8;route 0.0.0.1/^0 hop 1;");
        wrong(s, "capacity 8;route 128.0.0.0/^0 hop 1;");
        right(s, "capacity 8;route 128.0.0.0/1 hop 1;", 1);
        wrong(s, "capacity 8;route 1.0.0.0/8 hop 1;route 1.0.0.0/^8 hop 2;");
        wrong(s, "capacity 8;route 1.0.0.0/8 hop 1;route 2.0.0.0/8 hop 1;route 1.0.0.0/^008 hop 1;");
        right(s, "capacity 8;route 1.0.0.0/8 hop 1;route 1.0.0.0/9 hop 1;", 2);
        wrong(s, "capacity 8;seen 1.2.3.4 times 1;seen 1.2.3.^4 times 1;");
        wrong(s, "capacity 8;seen 0.0.0.0 times 1;seen 1.2.3.4 times 1;seen 000.000.000.^000 times 1;");
        right(s, "capacity 8;seen 1.2.3.4 times 1;seen 1.2.4.3 times 1;", 0);
        // An address that was seen may be that of a route.
        right(s, "capacity 8;route 1.2.3.4/32 hop 1;seen 1.2.3.4 times 1;", 1);
        wrong(s, clauses(60, 0) + "^route60.0.0.0/32hop1;");
        wrong(s, clauses(60, 0) + "^route");
        wrong(s, clauses(60, 0) + "^route0.0.0.0/32hop1;");
        wrong(s, clauses(0, 40) + "^seen40.0.0.0times1;");
        wrong(s, clauses(0, 40) + "^seen0.0.0.0times1;");
        wrong(s, clauses(60, 40) + "^seen");
        right(s, clauses(60, 0), 60);
        right(s, clauses(0, 40), 0);
    }

    private static void load(Sentences s) {
        s.says("promise 4", "Parses the tape as a text; the tape is empty afterwards.");
        ForwardingTable x = new ForwardingTable();
        Texts.load(x, "capacity 5;");
        s.due("tapeLength() behind a right text", x.tapeLength(), 0);
        Texts.load(x, "capacity");
        s.due("tapeLength() behind a wrong text", x.tapeLength(), 0);
        s.due("load() of an empty tape", x.load(), INVALID);
        s.due("tapeLength() behind an empty tape", x.tapeLength(), 0);
        ForwardingTable full = fullTape();
        full.load();
        s.due("tapeLength() behind a full tape", full.tapeLength(), 0);
        s.due("append behind load()", full.append(0, 0, 0, 0, 0), 20);

        s.says("promise 4", "Otherwise a new table begins as told, the log with the addresses that were seen in the order of the "
                + "text, with an empty hardware table, with all counts 0 (of count(), too), and nothing can be undone.");
        ForwardingTable y = Texts.busy();
        y.addRoute(Texts.ip(10, 0, 0, 0), 16, 9);
        y.clear();
        y.sync(9);
        y.load();
        Texts.load(y, "capacity 40;route 255.0.0.0/8 hop 15;route 0.0.0.0/0 hop 3;seen 9.9.9.9 times 2;seen 0.0.0.1 times 1;"
                + "seen 5.5.5.5 times 999;");
        s.due("state", Texts.state(y), "capacity 40\nroute 0/0 3\nroute 4278190080/8 15\nseen 151587081 2\nseen 1 1\n"
                + "seen 84215045 999\ncounts 0 0 0 0 0\nentries 2 target 2 lost 0 changes 2 missed 1002 runs 2");
        s.due("undo()", y.undo(), INVALID);
        ForwardingTable z = Texts.full();
        z.load();
        Texts.load(z, "capacity 1;");
        s.due("state of an empty text behind a full table", Texts.state(z),
                "capacity 1\ncounts 0 0 0 0 0\nentries 0 target 0 lost 0 changes 0 missed 0 runs 1");
        s.due("undo()", z.undo(), INVALID);

        s.says("promise 4", "Returns the number of routes;");
        right(s, "capacity 8;", 0);
        right(s, "capacity 8;seen 1.2.3.4 times 1;", 0);
        right(s, clauses(1, 40), 1);
        right(s, clauses(60, 0), 60);
    }

    private static void loadOfAnError(Sentences s) {
        s.says("promise 4", "On an error everything but the tape and the error position stays.");
        String[] texts = {"", "?", "capacity 5;route 0.0.0.0/0 hop 2;seen 1.1.1.1 times 2;?",
            "capacity 5;route 0.0.0.0/0 hop 2;seen 1.1.1.1 times 2; seen 1.1.1.1 times 1;", "capacity 41;"};
        for (String text : texts) {
            ForwardingTable twin = undoable();
            ForwardingTable x = undoable();
            s.due("load() of " + text, Texts.load(x, text), INVALID);
            s.due("state behind " + text, Texts.state(x), Texts.state(twin));
            for (int left = 1; left >= 0; left--) {
                twin.undo();
                s.due("undo() behind " + text, x.undo(), left);
                s.due("state undone behind " + text, Texts.state(x), Texts.state(twin));
            }
            s.due("undo() of none left", x.undo(), INVALID);
        }

        s.says("promise 4", "INVALID on an error.");
        s.due("load() of an empty tape", new ForwardingTable().load(), INVALID);
        s.due("load() of a full tape of white space", fullTape().load(), INVALID);
        wrong(s, "capacity 8;^?");
        wrong(s, clauses(60, 40) + "^;");
    }

    private static ForwardingTable undoable() {
        ForwardingTable x = Texts.loaded("capacity 3;route 10.0.0.0/8 hop 1;seen 10.0.0.9 times 7;");
        x.sync(1);
        x.packet(Texts.ip(10, 0, 0, 9), 2);
        return x;
    }

    private static void latestError(Sentences s) {
        s.says("promise 5", "Returns the error position of the latest load;");
        ForwardingTable x = new ForwardingTable();
        Texts.load(x, "capacity 8;?");
        s.due("errorPosition()", x.errorPosition(), 11);
        Texts.load(x, "capacity ?");
        s.due("errorPosition() of the next", x.errorPosition(), 9);
        x.load();
        s.due("errorPosition() of an empty tape", x.errorPosition(), 0);

        s.says("promise 5", "NOT_FOUND if the text was right or there was no load.");
        s.due("errorPosition() of a new table", new ForwardingTable().errorPosition(), NOT_FOUND);
        ForwardingTable y = new ForwardingTable();
        Texts.put(y, "?");
        s.due("errorPosition() with a wrong tape, but no load", y.errorPosition(), NOT_FOUND);
        y.load();
        Texts.load(y, "capacity 8;");
        s.due("errorPosition() of a right text behind a wrong one", y.errorPosition(), NOT_FOUND);
    }
}
