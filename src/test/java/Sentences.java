import java.io.IOException;
import java.nio.file.Files;
import java.nio.file.Path;
import java.util.Map;
import java.util.TreeMap;

/**
 * The sentences of the document, each with a test of its own. A quote that does not stand in the document, and a
 * sentence of the document that neither a test nor a list of plain ones quotes, is a failure. Where the document is not
 * at hand, only the tests are run.
 */
final class Sentences {
    /** A test of one sentence. */
    interface Test {
        void run(Check check);
    }

    private static final Path DOCUMENT = Path.of("../shared/DOC.md");

    private final Map<String, String> sections = new TreeMap<>();
    private final Map<String, String> untold = new TreeMap<>();
    private int tests = 0;
    private int wrong = 0;

    Sentences() throws IOException {
        if (!Files.exists(DOCUMENT)) {
            return;
        }
        for (String section : Files.readString(DOCUMENT).split("\n## ")) {
            int end = section.indexOf('\n');
            String place = section.substring(0, end).replaceFirst("^Promise ([0-9]+):.*", "$1");
            String text = section.substring(end).strip().replaceFirst("^`[^`]*\\)[^`]*`: ", "").replaceAll("\\s+", " ");
            if (place.equals("Terms") || place.matches("[0-9]+")) {
                sections.put(place, text);
                untold.put(place, text);
            }
        }
    }

    /** The place is "Terms" or the number of a promise. */
    void of(String place, String quote, Test test) {
        tell(place, quote);
        Check check = new Check();
        String thrown = Check.answer(() -> test.run(check));
        tests++;
        if (!thrown.equals("done") || check.wrongOnes() > 0 || check.checks() == 0) {
            wrong++;
            System.out.println("^ " + place + ": \"" + quote + "\" " + (thrown.equals("done") ? "" : thrown));
        }
    }

    /** Sentences that name no boundary case; other tests look at them. */
    void plain(String place, String... quotes) {
        for (String quote : quotes) {
            tell(place, quote);
        }
    }

    private void tell(String place, String quote) {
        if (!sections.isEmpty() && !sections.getOrDefault(place, "").contains(quote)) {
            wrong++;
            System.out.println("the document does not say under " + place + ": \"" + quote + "\"");
        }
        untold.put(place, untold.getOrDefault(place, "").replace(quote, "#"));
    }

    void finish() {
        untold.forEach((place, rest) -> {
            if (rest.chars().anyMatch(Character::isLetter)) {
                wrong++;
                System.out.println("told by no test, under " + place + ": " + rest);
            }
        });
        System.out.println(tests + " sentences, " + wrong + " wrong");
        if (wrong != 0) {
            System.exit(1);
        }
    }
}
