import java.io.IOException;
import java.nio.file.Files;
import java.nio.file.Path;
import java.util.ArrayList;
import java.util.Arrays;
import java.util.List;
import java.util.TreeSet;

/**
 * Every sentence of the document's "What it is", "Terms" and promises has a test that bears its words,
 * and every such test bears words that stand in the document. FaceTest has "The public face" and the
 * table of constants; "Not promised" has nothing to test.
 */
public final class DocumentTest {
    private static final Path DOCUMENT = Path.of("../shared/DOC.md");
    /** Behind a full stop that is not the end of the two dots of a range. */
    private static final String SENTENCE_END = "(?<=[^.][.])\\s+(?=[A-Z])";

    /** Words that only lead to the list behind them, and promise nothing by themselves. */
    private static final List<String> LEADS = Arrays.asList(
            Sentences.name("What it is", "The public constants are:"),
            Sentences.name("Languages", "Each cell c has a language L(c), a set of words, by its kind:"),
            Sentences.name("Completions and verdicts", "The verdict on a word w is"),
            Sentences.name("Promise 1",
                    "DerivativeParser(int cells, int length, int alphabet) fixes three numbers:"),
            Sentences.name("Promise 7", "open(cell):"),
            Sentences.name("Promise 10", "feed(token):"),
            Sentences.name("Promise 11", "keep(n):"),
            Sentences.name("Promise 13", "tokenAt(place):"),
            Sentences.name("Promise 16", "ahead(token):"));

    private static final Check CHECK = new Check("DocumentTest");

    public static void main(String[] args) throws IOException {
        List<String> written = sentencesOf(Files.readAllLines(DOCUMENT));
        List<String> tested = testedSentences();
        CHECK.due("sentences with two tests", tested.size(), new TreeSet<>(tested).size());
        CHECK.due("sentences that stand there twice", written.size(), new TreeSet<>(written).size());
        for (String sentence : written) {
            CHECK.holds("there is a test for: " + sentence, tested.contains(sentence) || LEADS.contains(sentence));
        }
        for (String sentence : tested) {
            CHECK.holds("the document says: " + sentence, written.contains(sentence));
        }
        for (String lead : LEADS) {
            CHECK.holds("the document says: " + lead, written.contains(lead));
        }
        CHECK.end();
    }

    private static List<String> testedSentences() {
        Sentences all = new Sentences();
        OverviewTest.list(all);
        TermsTest.list(all);
        RulesTest.list(all);
        CellsTest.list(all);
        InputTest.list(all);
        AnswersTest.list(all);
        return all.names();
    }

    /** The sections begin with a heading of a promise or, among the terms, with bold words. */
    private static List<String> sentencesOf(List<String> lines) {
        List<String> sentences = new ArrayList<>();
        boolean counts = false;
        String section = "";
        for (String line : lines) {
            if (line.startsWith("## ")) {
                section = line.substring(3).replaceAll(":.*", "");
                counts = section.equals("What it is") || section.equals("Terms") || section.startsWith("Promise ");
                continue;
            }
            String text = line.replace("`", "").replaceFirst("^(- |\\d+\\. )", "");
            if (text.startsWith("**")) {
                section = text.substring(2, text.indexOf(".**"));
                text = text.substring(text.indexOf(".**") + 3).trim();
            }
            if (counts && !text.isBlank() && !text.startsWith("|")) {
                addSentences(sentences, section, text);
            }
        }
        return sentences;
    }

    private static void addSentences(List<String> sentences, String section, String text) {
        for (String sentence : text.split(SENTENCE_END)) {
            sentences.add(Sentences.name(section, sentence));
        }
    }
}
