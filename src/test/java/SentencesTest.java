import java.io.IOException;
import java.nio.file.Files;
import java.nio.file.Path;
import java.util.LinkedHashSet;
import java.util.List;
import java.util.Set;
import java.util.regex.Matcher;
import java.util.regex.Pattern;

/**
 * Each sentence of the document that names a boundary case has tests of its own, in the classes
 * called here. This one runs them, and compares their sentences with those of the document: a
 * sentence that is neither tested nor listed below, or that the document does not have, is told.
 */
public final class SentencesTest {
    /** What these say is tested with the sentences around them; they name no boundary case. */
    private static final List<String> WITHOUT_BOUNDARY = List.of(
            "section 3 | The compressed table consists of entries, each with a prefix and a hop.",
            "section 3 | It is determined as follows.",
            "section 5 | Some entries of the compressed table are kept, the others are not.",
            "constants | The constructor and the methods follow, a promise each: the signature, then what it does.",
            "promise 9 | Returns that number;",
            "promise 17 | Returns that number;",
            "promise 19 | Returns that number;",
            "promise 25 | Returns that number;",
            "promise 30 | Returns that number;",
            "promise 33 | Returns that number;",
            "promise 47 | Returns a count.");

    private SentencesTest() {
    }

    public static void main(String[] args) throws IOException {
        Sentences s = new Sentences();
        tests(s);
        boolean right = s.tell();
        Path document = Path.of("../shared/DOC.md");
        if (Files.exists(document)) {
            right &= compare(sentencesOf(Files.readString(document)), s.tested());
        }
        if (!right) {
            System.exit(1);
        }
    }

    static void tests(Sentences s) {
        PrefixSentences.tests(s);
        CompressedSentences.tests(s);
        TrafficSentences.tests(s);
        TargetSentences.tests(s);
        HardwareSentences.tests(s);
        TextSentences.tests(s);
        AddressSentences.tests(s);
        CallSentences.tests(s);
    }

    private static boolean compare(Set<String> document, Set<String> tested) {
        Set<String> without = new LinkedHashSet<>(WITHOUT_BOUNDARY);
        boolean right = true;
        for (String sentence : document) {
            if (!sentence.startsWith("What it is") && tested.contains(sentence) == without.contains(sentence)) {
                System.out.println("either tested or without a boundary case: " + sentence);
                right = false;
            }
        }
        Set<String> known = new LinkedHashSet<>(tested);
        known.addAll(without);
        for (String sentence : known) {
            if (!document.contains(sentence)) {
                System.out.println("not in the document: " + sentence);
                right = false;
            }
        }
        return right;
    }

    /** The sentences with their places; what stands behind a semicolon with a capital is one, too. */
    static Set<String> sentencesOf(String document) {
        Set<String> sentences = new LinkedHashSet<>();
        String place = "";
        for (String line : document.split("\n")) {
            String text = line.strip();
            Matcher heading = Pattern.compile("## (Promise (\\d+):)?(.*)").matcher(text);
            Matcher section = Pattern.compile("(\\d)\\. .*").matcher(text);
            if (heading.matches()) {
                place = heading.group(2) != null ? "promise " + heading.group(2) : heading.group(3).strip();
            } else if (section.matches()) {
                place = "section " + section.group(1);
            } else if (text.equals("The constants:")) {
                place = "constants";
            } else if (isPromising(place) && !text.isEmpty() && !text.matches("`[^`]*`")) {
                addSentences(sentences, place, text);
            }
        }
        return sentences;
    }

    private static boolean isPromising(String place) {
        return place.matches("What it is|constants|(section|promise) \\d+");
    }

    private static void addSentences(Set<String> sentences, String place, String text) {
        String line = text.startsWith("- ") ? text.substring(2) : text;
        if (line.startsWith("text =") || place.equals("constants")) {
            sentences.add(Sentences.key(place, line));
            return;
        }
        for (String sentence : line.split("(?<=[.;:)]) +(?=[A-Z(])")) {
            sentences.add(Sentences.key(place, sentence));
        }
    }
}
