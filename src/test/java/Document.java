import java.io.IOException;
import java.nio.file.Files;
import java.nio.file.Path;
import java.util.ArrayList;
import java.util.List;
import java.util.regex.Matcher;
import java.util.regex.Pattern;

/**
 * The document as quotes: a test quotes a sentence, then asks for what that sentence says. A quote that does not
 * stand in its section, one behind which nothing is asked, and a word that names a bound in no quote are wrong.
 */
final class Document {
    /** The section ahead of promise 1. */
    static final int TERMS = 0;

    private static final Pattern HEADING = Pattern.compile("## Promise (\\d+): [^`]*`[^`]*`:?");
    private static final Pattern BOUND = Pattern.compile("\\d+|NONE|NEVER|REFUSED|\\b(false|none|empty|stays|at most"
            + "|at first|like ones|lowest|the end|fewer|nobody|no more|no such|first|twice|always|never|refused)\\b");

    private final String text;
    private final boolean[] isQuoted;
    private final List<int[]> sections = new ArrayList<>();
    private int[] section;
    private String quote = null;
    private int askedBefore = 0;

    private Document(String text) {
        this.text = text;
        isQuoted = new boolean[text.length()];
        sections.add(new int[] {TERMS, 0, text.length()});
        Matcher heading = HEADING.matcher(text);
        while (heading.find()) {
            sections.get(sections.size() - 1)[2] = heading.start();
            sections.add(new int[] {Integer.parseInt(heading.group(1)), heading.end(), text.length()});
        }
        section = sections.get(0);
    }

    static Document read() throws IOException {
        String whole = Files.readString(Path.of("..", "shared", "DOC.md"));
        return new Document(whole.replaceAll("(?s)^.*?## What it is.*?==== 1\\.", "")
                .replaceAll("(?s)## The public face.*?## Terms", "").replaceAll("(?s)## Not promised.*", "")
                .replaceAll("```(text)?", "").replaceAll("==== \\d\\.", "").replaceAll("\\s+", " "));
    }

    void promise(int number) {
        for (int[] some : sections) {
            if (some[0] == number) {
                section = some;
                return;
            }
        }
        Due.is("the document has a promise " + number, 0, 1);
    }

    /** What is asked from here on is what this sentence says. */
    void says(String sentence) {
        endQuote();
        quote = sentence;
        askedBefore = Due.asked();
        Due.about(section[0] == TERMS ? "Terms" : "Promise " + section[0], sentence);
        int at = text.indexOf(sentence, section[1]);
        boolean stands = at >= 0 && at + sentence.length() <= section[2];
        if (!stands) {
            Due.is("the sentence stands in the document", 0, 1);
            askedBefore++;
        }
        while (stands) {
            java.util.Arrays.fill(isQuoted, at, at + sentence.length(), true);
            at = text.indexOf(sentence, at + 1);
            stands = at >= 0 && at + sentence.length() <= section[2];
        }
    }

    private void endQuote() {
        if (quote != null && Due.asked() <= askedBefore) {
            Due.is("something is asked behind the sentence", 0, 1);
        }
    }

    /** Tells of each bound that no test has quoted. */
    void end() {
        endQuote();
        for (int[] some : sections) {
            Matcher bound = BOUND.matcher(text).region(some[1], some[2]);
            while (bound.find()) {
                if (!isQuoted[bound.start()]) {
                    Due.about("section " + some[0], around(bound.start()));
                    Due.is("a quote has " + bound.group(), 0, 1);
                }
            }
        }
        Due.about("", "");
        Due.is("sections", sections.size(), 34);
    }

    private String around(int place) {
        return text.substring(Math.max(0, place - 40), Math.min(text.length(), place + 40));
    }
}
