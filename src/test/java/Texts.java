/** Puts texts on the tape of a table, and reads its reports. */
final class Texts {
    private Texts() {
    }

    /** Appends a text of any length: the last bytes of the last twenty are cut off again. */
    static void put(ForwardingTable x, String text) {
        int padding = (20 - text.length() % 20) % 20;
        String padded = text + " ".repeat(padding);
        for (int i = 0; i < padded.length(); i += 20) {
            x.append(word(padded, i), word(padded, i + 4), word(padded, i + 8), word(padded, i + 12),
                    word(padded, i + 16));
        }
        x.truncate(padding);
    }

    static int word(String text, int at) {
        int word = 0;
        for (int i = 0; i < 4; i++) {
            word = word << 8 | (text.charAt(at + i) & 255);
        }
        return word;
    }

    static int load(ForwardingTable x, String text) {
        put(x, text);
        return x.load();
    }

    static ForwardingTable loaded(String text) {
        ForwardingTable x = new ForwardingTable();
        if (load(x, text) < 0) {
            throw new IllegalStateException("not loaded, error at " + x.errorPosition() + ": " + text);
        }
        return x;
    }

    /** An address from its four bytes. */
    static int ip(int a, int b, int c, int d) {
        return a << 24 | b << 16 | c << 8 | d;
    }

    static String report(ForwardingTable x, int kind) {
        StringBuilder text = new StringBuilder();
        int length = x.reportLength(kind);
        for (int i = 0; i < length; i++) {
            text.append((char) x.reportByte(kind, i));
        }
        return text.toString();
    }
}
