import java.util.List;
import java.util.concurrent.CopyOnWriteArrayList;

/** Puts texts on the tape of a table, and reads what a table tells. */
final class Texts {
    /** What loaded() could not load: no test passes with that. */
    static final List<String> FAULTS = new CopyOnWriteArrayList<>();

    private Texts() {
    }

    /** Appends a text of any length: the last bytes of the last twenty are cut off again. */
    static void put(ForwardingTable x, String text) {
        int padding = (20 - text.length() % 20) % 20;
        String padded = text + " ".repeat(padding);
        for (int i = 0; i < padded.length(); i += 20) {
            x.append(word(padded, i), word(padded, i + 4), word(padded, i + 8), word(padded, i + 12),
                    word(padded, i + 16));
        }
        x.truncate(padding);
    }

    static int word(String text, int at) {
        int word = 0;
        for (int i = 0; i < 4; i++) {
            word = word << 8 | (text.charAt(at + i) & 255);
        }
        return word;
    }

    static int load(ForwardingTable x, String text) {
        put(x, text);
        return x.load();
    }

    static ForwardingTable loaded(String text) {
        ForwardingTable x = new ForwardingTable();
        if (load(x, text) < 0) {
            FAULTS.add("not loaded, error at " + x.errorPosition() + ": " + text);
        }
        return x;
    }

    /** An address from its four bytes. */
    static int ip(int a, int b, int c, int d) {
        return a << 24 | b << 16 | c << 8 | d;
    }

    static String report(ForwardingTable x, int kind) {
        StringBuilder text = new StringBuilder();
        int length = x.reportLength(kind);
        for (int i = 0; i < length; i++) {
            text.append((char) x.reportByte(kind, i));
        }
        return text.toString();
    }

    /** A table with something of all: two routes, three addresses, a hardware on its way, a tape. */
    static ForwardingTable busy() {
        ForwardingTable x = loaded("capacity 2;route 10.0.0.0/8 hop 1;route 10.1.0.0/16 hop 2;"
                + "seen 10.0.0.1 times 5;seen 10.1.0.1 times 5;");
        x.sync(1);
        x.packet(ip(10, 1, 0, 1), 3);
        x.packet(-1, 1);
        load(x, "capacity 2;?");
        put(x, "capacity 7;?");
        return x;
    }

    /** A table that is full: sixty routes, forty addresses, a hardware without room, all undos. */
    static ForwardingTable full() {
        StringBuilder text = new StringBuilder("capacity 1;");
        for (int i = 0; i < 60; i++) {
            text.append("route").append(i).append(".0.0.0/32hop1;");
        }
        for (int i = 0; i < 40; i++) {
            text.append("seen").append(i).append(".0.0.0times1;");
        }
        ForwardingTable x = loaded(text.toString());
        x.sync(1);
        for (int i = 0; i < 7; i++) {
            x.packet(ip(5, 0, 0, 0), 1);
        }
        x.sync(1);
        put(x, "capacity 3; seen ");
        return x;
    }

    /** What a table tells of its state. */
    static String state(ForwardingTable x) {
        StringBuilder text = new StringBuilder("capacity ").append(x.capacity());
        int routes = x.routes();
        for (int i = 0; i < routes; i++) {
            text.append("\nroute ").append(x.route(i, 0)).append('/').append(x.route(i, 1)).append(' ')
                    .append(x.route(i, 2));
        }
        int logged = x.logged();
        for (int i = 0; i < logged; i++) {
            text.append("\nseen ").append(x.log(i, 0)).append(' ').append(x.log(i, 1));
        }
        int size = x.hardwareSize();
        for (int i = 0; i < size; i++) {
            text.append("\nhardware ").append(x.hardware(i, 0)).append('/').append(x.hardware(i, 1)).append(' ')
                    .append(x.hardware(i, 2));
        }
        text.append("\ncounts");
        for (int what = 0; what < 5; what++) {
            text.append(' ').append(x.count(what));
        }
        return text.append("\nentries ").append(x.compressed()).append(" target ").append(x.targetSize())
                .append(" lost ").append(x.lostHits()).append(" changes ").append(x.changes()).append(" missed ")
                .append(x.missed()).append(" runs ").append(x.runs()).toString();
    }

    /** All that a table tells: in the end one operation is undone, and the tape is loaded. */
    static String all(ForwardingTable x) {
        StringBuilder text = new StringBuilder(state(x));
        text.append("\ntape ").append(x.tapeLength()).append(" error ").append(x.errorPosition());
        text.append("\nundo ").append(x.undo()).append(" hardware ").append(x.hardwareSize()).append(" churn ")
                .append(x.count(2)).append(" logged ").append(x.logged()).append(" routes ").append(x.routes());
        text.append("\nload ").append(x.load()).append(" error ").append(x.errorPosition()).append(" capacity ")
                .append(x.capacity());
        return text.toString();
    }
}
