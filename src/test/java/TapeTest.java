/** Promises 1 to 5 and 51: a new object, the tape, the text. */
public final class TapeTest {
    private static final Check CHECK = new Check("TapeTest");

    public static void main(String[] args) {
        newObject();
        appending();
        truncating();
        loading();
        rightTexts();
        wrongTexts();
        numbersOutOfRange();
        refusedByWhatCameBefore();
        manyClauses();
        cutTexts();
        changedTexts();
        bytesBehindTheTape();
        errorsLeaveTheTable();
        CHECK.end();
    }

    private static void newObject() {
        ForwardingTable x = new ForwardingTable();
        CHECK.due("new capacity()", x.capacity(), 8);
        CHECK.due("new routes()", x.routes(), 0);
        CHECK.due("new logged()", x.logged(), 0);
        CHECK.due("new hardwareSize()", x.hardwareSize(), 0);
        CHECK.due("new tapeLength()", x.tapeLength(), 0);
        CHECK.due("new errorPosition()", x.errorPosition(), ForwardingTable.NOT_FOUND);
        CHECK.due("new undo()", x.undo(), ForwardingTable.INVALID);
        for (int what = 0; what < 5; what++) {
            CHECK.due("new count(" + what + ")", x.count(what), 0);
        }
    }

    private static void appending() {
        ForwardingTable x = new ForwardingTable();
        for (int i = 1; i <= 110; i++) {
            CHECK.due("append no. " + i, x.append(0x20202020, 0, -1, 0x0a0a0a0a, i), 20 * i);
        }
        CHECK.due("append beyond 2200", x.append(0, 0, 0, 0, 0), ForwardingTable.INVALID);
        CHECK.due("tapeLength() of a full tape", x.tapeLength(), 2200);
        CHECK.due("truncate(19)", x.truncate(19), 2181);
        CHECK.due("append beyond 2200 by 1", x.append(0, 0, 0, 0, 0), ForwardingTable.INVALID);
        CHECK.due("tapeLength() after it", x.tapeLength(), 2181);
        CHECK.due("truncate(1)", x.truncate(1), 2180);
        CHECK.due("append up to 2200", x.append(0, 0, 0, 0, 0), 2200);

        // "capa" "city" "12;r" "oute" "1.2." and "3.4/" "32ho" "p15;" and two words of white space
        ForwardingTable y = new ForwardingTable();
        y.append(0x63617061, 0x63697479, 0x31323b72, 0x6f757465, 0x312e322e);
        y.append(0x332e342f, 0x3332686f, 0x7031353b, 0x20202020, 0x0a0a0a0a);
        CHECK.due("load() of bytes in their order", y.load(), 1);
        CHECK.due("capacity() of it", y.capacity(), 12);
        CHECK.due("route(0, 0) of it", y.route(0, 0), 0x01020304);
        CHECK.due("route(0, 2) of it", y.route(0, 2), 15);
    }

    private static void truncating() {
        ForwardingTable x = new ForwardingTable();
        CHECK.due("truncate(0) of an empty tape", x.truncate(0), 0);
        CHECK.due("truncate(1) of an empty tape", x.truncate(1), ForwardingTable.INVALID);
        x.append(0, 0, 0, 0, 0);
        CHECK.due("truncate(-1)", x.truncate(-1), ForwardingTable.INVALID);
        CHECK.due("truncate(21)", x.truncate(21), ForwardingTable.INVALID);
        CHECK.due("truncate(least int)", x.truncate(Integer.MIN_VALUE), ForwardingTable.INVALID);
        CHECK.due("tapeLength() after wrong ones", x.tapeLength(), 20);
        CHECK.due("truncate(0)", x.truncate(0), 20);
        CHECK.due("truncate(7)", x.truncate(7), 13);
        CHECK.due("append behind it", x.append(0, 0, 0, 0, 0), 33);
        CHECK.due("truncate(33)", x.truncate(33), 0);
    }

    private static void loading() {
        ForwardingTable x = Texts.loaded("capacity 3; route 10.0.0.0/8 hop 1; seen 10.0.0.9 times 7;");
        x.packet(Texts.ip(10, 0, 0, 9), 5);
        x.sync(5);
        x.clear();
        x.addRoute(0, 1, 4);
        CHECK.due("targetSize() before load()", x.targetSize(), 1);
        CHECK.due("runs() before load()", x.runs(), 4);
        CHECK.due("changes() before load()", x.changes(), 1);
        CHECK.due("load() of another text",
                Texts.load(x, "capacity 40;\nroute 255.0.0.0/8 hop 15;route 0.0.0.0/0 hop 0;"
                        + "seen 9.9.9.9 times 999;seen 0.0.0.1 times 1;"), 2);
        CHECK.due("tapeLength() after load()", x.tapeLength(), 0);
        CHECK.due("errorPosition() after load()", x.errorPosition(), ForwardingTable.NOT_FOUND);
        CHECK.due("capacity() after load()", x.capacity(), 40);
        CHECK.due("route(0, 1), in order", x.route(0, 1), 0);
        CHECK.due("route(1, 0), in order", x.route(1, 0), 0xFF000000L);
        CHECK.due("route(1, 2)", x.route(1, 2), 15);
        CHECK.due("logged()", x.logged(), 2);
        CHECK.due("log(0, 0), as in the text", x.log(0, 0), 0x09090909);
        CHECK.due("log(0, 1)", x.log(0, 1), 999);
        CHECK.due("log(1, 0)", x.log(1, 0), 1);
        CHECK.due("hardwareSize() after load()", x.hardwareSize(), 0);
        CHECK.due("runs() after load()", x.runs(), 2);
        CHECK.due("compressed() after load()", x.compressed(), 1);
        CHECK.due("targetSize() after load()", x.targetSize(), 0);
        CHECK.due("changes() after load()", x.changes(), 0);
        CHECK.due("undo() after load()", x.undo(), ForwardingTable.INVALID);
        for (int what = 0; what < 5; what++) {
            CHECK.due("count(" + what + ") after load()", x.count(what), 0);
        }
        CHECK.due("load() of an empty tape", x.load(), ForwardingTable.INVALID);
        CHECK.due("errorPosition() then", x.errorPosition(), 0);
        CHECK.due("routes() then", x.routes(), 2);
    }

    private static void right(String text, int routes) {
        ForwardingTable x = new ForwardingTable();
        CHECK.due("load() of " + text, Texts.load(x, text), routes);
        CHECK.due("errorPosition() of " + text, x.errorPosition(), ForwardingTable.NOT_FOUND);
        CHECK.due("tapeLength() after " + text, x.tapeLength(), 0);
    }

    private static void rightTexts() {
        right("capacity1;", 0);
        right("capacity 040;", 0);
        right(" \n capacity\n1 ;\n ", 0);
        right("capacity 1;seen 0.0.0.0 times 001;", 0);
        right("capacity 1;route255.255.255.255/32hop0;", 1);
        right("capacity 1 ; route 000 . 00 . 0 . 0 / 000 hop 015 ;", 1);
        right("capacity 1;route 128.0.0.0/1 hop 1;route 128.0.0.0/2 hop 1;seen 128.0.0.0 times 3;", 2);
        right("capacity 1;seen 1.0.0.0 times 1;seen 0.1.0.0 times 1;", 0);
    }

    /** The sign ^ stands where the error position is due. */
    private static void wrong(String marked) {
        String text = marked.replace("^", "");
        ForwardingTable x = new ForwardingTable();
        CHECK.due("load() of " + marked, Texts.load(x, text), ForwardingTable.INVALID);
        CHECK.due("errorPosition() of " + marked, x.errorPosition(), marked.indexOf('^'));
        CHECK.due("tapeLength() after " + marked, x.tapeLength(), 0);
        CHECK.due("capacity() after " + marked, x.capacity(), 8);
    }

    private static void wrongTexts() {
        wrong("^");
        wrong(" \n ^");
        wrong("^8;");
        wrong("^capacit 8;");
        wrong("^capacitys 8;");
        wrong("^capacityz 8;");
        wrong("^zapacity 8;");
        wrong("^xapacity 8;");
        wrong("capacity^` 8;");
        wrong("capacity^{ 8;");
        wrong("capacity 8^:");
        wrong("capacity 8^/");
        wrong("^Capacity 8;");
        wrong("^route 1.0.0.0/8 hop 1;");
        wrong("capacity^");
        wrong("capacity ^;");
        wrong("capacity ^eight;");
        wrong("capacity ^-8;");
        wrong("capacity 8^");
        wrong("capacity 8 \n^");
        wrong("capacity 8^.");
        wrong("capacity 8 ^8;");
        wrong("capacity 8;^;");
        wrong("capacity 8;^8");
        wrong("capacity 8;^\t");
        wrong("capacity 8;^\u00e9");
        wrong("capacity 8;^\u0000");
        wrong("capacity 8;^capacity 8;");
        wrong("capacity 8;^hop 1;");
        wrong("capacity 8;^times 1;");
        wrong("capacity 8;^routes 1.0.0.0/8 hop 1;");
        wrong("capacity 8;route^");
        wrong("capacity 8;route ^.0.0.0/8 hop 1;");
        wrong("capacity 8;route 1^/8 hop 1;");
        wrong("capacity 8;route 1.0.0.0^.0/8 hop 1;");
        wrong("capacity 8;route 1.0.0.0 ^hop 1;");
        wrong("capacity 8;route 1.0.0.0/^hop 1;");
        wrong("capacity 8;route 1.0.0.0 ^8 hop 1;");
        wrong("capacity 8;route 1.0.0.0/8 ^1;");
        wrong("capacity 8;route 1 ^0.0.0/8 hop 1;");
        wrong("capacity 8;seen 1.0.0.0 ^1;");
        wrong("capacity 8;route 1.0.0.0/8 ^;");
        wrong("capacity 8;route 1.0.0.0/8 hop ^;");
        wrong("capacity 8;route 1.0.0.0/8 hop 1^");
        wrong("capacity 8;route 1.0.0.0/8 hop 1 ^route 2.0.0.0/8 hop 1;");
        wrong("capacity 8;route 1.0.0.0/8 ^times 1;");
        wrong("capacity 8;seen 1.0.0.0 ^/8 hop 1;");
        wrong("capacity 8;seen 1.0.0.0 ^hop 1;");
        wrong("capacity 8;seen 1.0.0^");
        wrong("capacity 8;seen 1.0.0.0 times 1^");
        wrong("capacity 8;seen 1.0.0.0 times 1;^route 1.0.0.0/8 hop 1;");
        wrong("capacity 8;seen 1.0.0.0 times 1;^1");
    }

    private static void numbersOutOfRange() {
        wrong("capacity ^0;");
        wrong("capacity ^41;");
        wrong("capacity ^0008;");
        wrong("capacity ^1000;");
        wrong("capacity ^99999999999999999999;");
        wrong("capacity 8;route ^256.0.0.0/8 hop 1;");
        wrong("capacity 8;route 1.^256.0.0/8 hop 1;");
        wrong("capacity 8;route 1.0.^999.0/8 hop 1;");
        wrong("capacity 8;route 1.0.0.^0000/8 hop 1;");
        wrong("capacity 8;route 1.0.0.0/^33 hop 1;");
        wrong("capacity 8;route 1.0.0.0/8 hop ^16;");
        wrong("capacity 8;route 1.0.0.0/8 hop ^0001;");
        wrong("capacity 8;seen 1.0.0.^256 times 1;");
        wrong("capacity 8;seen 1.0.0.0 times ^0;");
        wrong("capacity 8;seen 1.0.0.0 times ^1000;");
    }

    private static void refusedByWhatCameBefore() {
        wrong("capacity 8;route 1.0.0.0/^7 hop 1;");
        wrong("capacity 8;route 0.0.0.1/^31 hop 1;");
        wrong("capacity 8;route 128.0.0.0/^0 hop 1;");
        wrong("capacity 8;route 1.0.0.0/8 hop 1;route 1.0.0.0/^8 hop 2;");
        wrong("capacity 8;route 1.0.0.0/8 hop 1;route 1.0.0.0/9 hop 2;route 1.0.0.0/^008 hop 1;");
        wrong("capacity 8;seen 1.2.3.4 times 1;seen 1.2.3.^4 times 1;");
        wrong("capacity 8;seen 1.2.3.4 times 1;seen 4.3.2.1 times 1;seen 1.2.3.^004 times 2;");
    }

    private static String clauses(int routes, int seen) {
        StringBuilder text = new StringBuilder("capacity 8;");
        for (int i = 0; i < routes; i++) {
            text.append("route").append(i).append(".0.0.0/32hop1;");
        }
        for (int i = 0; i < seen; i++) {
            text.append("seen").append(i).append(".0.0.0times1;");
        }
        return text.toString();
    }

    private static void manyClauses() {
        right(clauses(60, 40), 60);
        wrong(clauses(60, 0) + "^route60.0.0.0/32hop1;");
        wrong(clauses(60, 0) + "^route");
        wrong(clauses(0, 40) + "^seen99.0.0.0times1;");
        wrong(clauses(60, 40) + "^seen");
        wrong(clauses(60, 40) + "^route");
    }

    private static void asInTheModel(String text) {
        ForwardingTable x = new ForwardingTable();
        ModelText m = new ModelText(text);
        CHECK.due("load() of " + text, Texts.load(x, text), m.error < 0 ? m.table.routes.size() : -1);
        CHECK.due("errorPosition() of " + text, x.errorPosition(), m.error);
    }

    private static final String WHOLE = "capacity 12 ;route 1.20.0.0/16 hop 10;route 255.254.253.252/32hop0;\n"
            + "seen 0.1.23.255 times 400;seen 9.8.7.6 times 1;";

    private static void cutTexts() {
        for (int end = 0; end <= WHOLE.length(); end++) {
            asInTheModel(WHOLE.substring(0, end));
        }
    }

    /** The text with each byte left out, and with each byte replaced by some others. */
    private static void changedTexts() {
        String others = " ;./0z9c\n\t-";
        for (int at = 0; at < WHOLE.length(); at++) {
            asInTheModel(WHOLE.substring(0, at) + WHOLE.substring(at + 1));
            for (char c : others.toCharArray()) {
                asInTheModel(WHOLE.substring(0, at) + c + WHOLE.substring(at + 1));
            }
        }
    }

    /** What was cut off the tape counts no more, even if it would go on with a token. */
    private static void bytesBehindTheTape() {
        ForwardingTable x = new ForwardingTable();
        Texts.put(x, "capacityx");
        x.truncate(1);
        x.load();
        CHECK.due("errorPosition() of a cut word", x.errorPosition(), 8);
        Texts.put(x, "capacity 1111");
        x.truncate(3);
        x.load();
        CHECK.due("errorPosition() of a cut number", x.errorPosition(), 10);
        Texts.put(x, "capacity 11;route");
        x.truncate(5);
        CHECK.due("load() of a cut text", x.load(), 0);
        CHECK.due("capacity()", x.capacity(), 11);
        for (int i = 0; i < 110; i++) {
            x.append(0x20202020, 0x20202020, 0x20202020, 0x20202020, i < 109 ? 0x20202020 : 0x63617061);
        }
        x.load();
        CHECK.due("errorPosition() at the end of a full tape", x.errorPosition(), 2196);
        for (int i = 0; i < 110; i++) {
            x.append(0x20202020, 0x20202020, 0x20202020, 0x20202020, 0x20202020);
        }
        x.load();
        CHECK.due("errorPosition() of a full tape of spaces", x.errorPosition(), 2200);
    }

    private static void errorsLeaveTheTable() {
        ForwardingTable x = Texts.loaded("capacity 3;route 10.0.0.0/8 hop 1;seen 10.0.0.9 times 7;");
        x.sync(1);
        x.packet(Texts.ip(10, 0, 0, 9), 2);
        CHECK.due("load() of an error", Texts.load(x, "capacity 5;route 0.0.0.0/0 hop 2;seen 1.1.1.1 times 2;x"), -1);
        CHECK.due("capacity() after an error", x.capacity(), 3);
        CHECK.due("routes() after an error", x.routes(), 1);
        CHECK.due("route(0, 1) after an error", x.route(0, 1), 8);
        CHECK.due("logged() after an error", x.logged(), 1);
        CHECK.due("log(0, 1) after an error", x.log(0, 1), 9);
        CHECK.due("hardwareSize() after an error", x.hardwareSize(), 1);
        CHECK.due("count(0) after an error", x.count(0), 2);
        CHECK.due("answer() after an error", x.answer(0), 0);
        CHECK.due("targetSize() after an error", x.targetSize(), 1);
        CHECK.due("undo() after an error", x.undo(), 1);
        CHECK.due("errorPosition() is not undone", x.errorPosition(), 54);
    }
}
