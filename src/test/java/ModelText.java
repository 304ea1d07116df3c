import java.util.ArrayList;
import java.util.List;
import java.util.regex.Matcher;
import java.util.regex.Pattern;

/** The text of section 7, read by regular expressions and a list of expected tokens. */
final class ModelText {
    private record Token(String sign, int at) {
    }

    final Model.State table = new Model.State();
    /** The error position, or NOT_FOUND. */
    final int error;

    private final List<Token> tokens = new ArrayList<>();
    private int next = 0;
    private int fault = Model.NOT_FOUND;

    ModelText(String text) {
        Matcher m = Pattern.compile("[ \\n]+|([a-z]+|[0-9]+|[^ \\n])", Pattern.DOTALL).matcher(text);
        while (m.find()) {
            if (m.group(1) != null) {
                tokens.add(new Token(m.group(1), m.start()));
            }
        }
        tokens.add(new Token("", text.length()));
        all();
        error = fault;
    }

    private boolean bad() {
        fault = tokens.get(next).at();
        return false;
    }

    private boolean is(String sign) {
        return tokens.get(next).sign().equals(sign);
    }

    private boolean sign(String wanted) {
        if (!is(wanted)) {
            return bad();
        }
        next++;
        return true;
    }

    /** The number of the current token, or -1 if it is none or out of range. */
    private int number(int least, int most) {
        String s = tokens.get(next).sign();
        if (!s.matches("[0-9]{1,3}") || Integer.parseInt(s) < least || Integer.parseInt(s) > most) {
            bad();
            return -1;
        }
        return Integer.parseInt(s);
    }

    private boolean all() {
        if (!sign("capacity") || number(1, 40) < 0) {
            return false;
        }
        table.capacity = number(1, 40);
        next++;
        if (!sign(";")) {
            return false;
        }
        while (is("route")) {
            if (!route()) {
                return false;
            }
        }
        while (is("seen")) {
            if (!seen()) {
                return false;
            }
        }
        return is("") || bad();
    }

    /** Reads up to the last byte, which stays the current token; -1 on an error. */
    private long address() {
        long value = 0;
        for (int i = 0; i < 4; i++) {
            if (i > 0) {
                next++;
                if (!sign(".")) {
                    return -1;
                }
            }
            int n = number(0, 255);
            if (n < 0) {
                return -1;
            }
            value = value * 256 + n;
        }
        return value;
    }

    private boolean route() {
        if (table.routes.size() == 60) {
            return bad();
        }
        next++;
        long value = address();
        if (value < 0) {
            return false;
        }
        next++;
        if (!sign("/")) {
            return false;
        }
        int length = number(0, 32);
        if (length < 0) {
            return false;
        }
        Model.Prefix p = new Model.Prefix(value, length);
        if (value % p.size() != 0 || table.routes.containsKey(p)) {
            return bad();
        }
        next++;
        if (!sign("hop")) {
            return false;
        }
        int hop = number(0, 15);
        if (hop < 0) {
            return false;
        }
        next++;
        table.routes.put(p, hop);
        return sign(";");
    }

    private boolean seen() {
        if (table.log.size() == 40) {
            return bad();
        }
        next++;
        long address = address();
        if (address < 0) {
            return false;
        }
        if (table.log.containsKey(address)) {
            return bad();
        }
        next++;
        if (!sign("times")) {
            return false;
        }
        int times = number(1, 999);
        if (times < 0) {
            return false;
        }
        next++;
        table.log.put(address, times);
        return sign(";");
    }
}
