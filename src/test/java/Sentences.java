import java.util.ArrayList;
import java.util.LinkedHashSet;
import java.util.List;
import java.util.Set;
import java.util.function.Consumer;
import java.util.function.Supplier;
import java.util.function.ToLongFunction;

/**
 * Tests by sentence: says() begins the tests of one sentence of the document, and what due() finds
 * wrong is told with this sentence. A sentence stands with its place ("section 4", "promise 10").
 */
final class Sentences {
    private final Set<String> tested = new LinkedHashSet<>();
    private final Set<String> broken = new LinkedHashSet<>();
    private final List<String> told = new ArrayList<>();
    private String sentence = "";
    private int answers = 0;
    private int answersBefore = 0;
    private int wrong = 0;

    static String key(String place, String words) {
        return place + " | " + words;
    }

    void says(String place, String words) {
        endOfSentence();
        sentence = key(place, words);
        if (!tested.add(sentence)) {
            fail("is tested twice");
        }
        answersBefore = answers;
    }

    /** Runs tests of some sentences; if they throw, the others go on. */
    void run(Consumer<Sentences> tests) {
        try {
            tests.accept(this);
        } catch (RuntimeException e) {
            answers++;
            fail("threw " + e);
        }
    }

    private void endOfSentence() {
        if (!sentence.isEmpty() && answers == answersBefore) {
            fail("has no test");
        }
    }

    private void fail(String what) {
        wrong++;
        broken.add(sentence);
        if (wrong <= 100) {
            told.add(sentence + "\n    " + what);
        }
    }

    void due(String what, long got, long want) {
        answers++;
        if (got != want) {
            fail(what + " answered " + got + ", due is " + want);
        }
    }

    void due(String what, boolean got, boolean want) {
        due(what, got ? 1 : 0, want ? 1 : 0);
    }

    void due(String what, String got, String want) {
        answers++;
        if (!got.equals(want)) {
            fail(what + " answered\n" + got + "\ndue is\n" + want);
        }
    }

    /** A call that gives this answer and changes nothing: its table tells what a twin tells. */
    void same(String what, Supplier<ForwardingTable> make, ToLongFunction<ForwardingTable> call, long want) {
        ForwardingTable x = make.get();
        due(what, call.applyAsLong(x), want);
        due("all behind " + what, Texts.all(x), Texts.all(make.get()));
    }

    /** A call that is refused as invalid, in a new, a busy and a full table. */
    void invalid(String what, ToLongFunction<ForwardingTable> call) {
        same(what + " of a new table", ForwardingTable::new, call, ForwardingTable.INVALID);
        same(what + " of a busy table", Texts::busy, call, ForwardingTable.INVALID);
        same(what + " of a full table", Texts::full, call, ForwardingTable.INVALID);
    }

    Set<String> tested() {
        return tested;
    }

    /** The sentences of which an answer was wrong. */
    Set<String> broken() {
        endOfSentence();
        return broken;
    }

    boolean tell() {
        endOfSentence();
        told.forEach(System.out::println);
        Texts.FAULTS.forEach(System.out::println);
        System.out.println("SentencesTest: " + tested.size() + " sentences, " + answers + " answers, " + wrong
                + " not as due");
        return wrong == 0 && Texts.FAULTS.isEmpty();
    }
}
