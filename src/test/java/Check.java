/** Compares answers with those that are due, and ends a test. */
final class Check {
    private final String test;
    private int calls = 0;
    private int wrong = 0;

    Check(String test) {
        this.test = test;
    }

    void due(String what, long got, long want) {
        calls++;
        if (got != want) {
            wrong++;
            if (wrong <= 50) {
                System.out.println(test + ": " + what + " answered " + got + ", due is " + want);
            }
        }
    }

    void due(String what, boolean got, boolean want) {
        due(what, got ? 1 : 0, want ? 1 : 0);
    }

    void due(String what, String got, String want) {
        calls++;
        if (!got.equals(want)) {
            wrong++;
            System.out.println(test + ": " + what + " answered\n" + got + "\ndue is\n" + want);
        }
    }

    int wrong() {
        return wrong;
    }

    void end() {
        Texts.FAULTS.forEach(System.out::println);
        System.out.println(test + ": " + calls + " answers, " + wrong + " not as due");
        if (calls == 0 || wrong != 0 || !Texts.FAULTS.isEmpty()) {
            System.exit(1);
        }
    }
}
