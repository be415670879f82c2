import java.io.IOException;
import java.io.UncheckedIOException;
import java.nio.file.Files;
import java.nio.file.Path;
import java.util.TreeSet;
import java.util.function.IntUnaryOperator;

/** Answers that are due by a sentence of the document: each is told with its promise and sentence. */
final class Sentences {
    private static final String HEADING = "## Promise ";

    private final Due due = new Due();
    private final String document;
    private final TreeSet<Integer> named = new TreeSet<>();
    private String sentence = "";
    private int answers = 1;

    Sentences() {
        try {
            document = Files.readString(Path.of("../shared/DOC.md"));
        } catch (IOException e) {
            throw new UncheckedIOException(e);
        }
    }

    /** What is asked from now on tests this sentence, which stands in the document word for word. */
    void says(int promise, String words) {
        endSentence();
        sentence = "promise " + promise + ", \"" + words + "\": ";
        named.add(promise);
        answers = 0;
        due.is(sentence + "stands in the document", standsAt(promise, words) ? 1 : 0, 1);
    }

    private boolean standsAt(int promise, String words) {
        int begin = document.indexOf(HEADING + promise + ":");
        int end = document.indexOf("\n## ", Math.max(0, begin));
        boolean ofPromise = begin >= 0 && end >= 0 && document.substring(begin, end).contains(words);
        return ofPromise || document.substring(0, document.indexOf(HEADING)).contains(words);
    }

    void is(String call, long got, long want) {
        answers++;
        due.is(sentence + call, got, want);
    }

    /** The answer that a text's town gives on a new object to which the first text was told. */
    void town(String first, String text, int want) {
        WhoseHourItIs x = first.isEmpty() ? new WhoseHourItIs() : Due.of(first);
        is("town of \"" + text + "\" behind \"" + first + "\"", Due.tell(x, text), want);
    }

    /** Only 0 .. below - 1 are there: what is outside is refused with -1 and counted, one by one. */
    void nobody(String call, WhoseHourItIs x, int below, IntUnaryOperator asking) {
        for (int wrong : new int[] {-1, below, Integer.MIN_VALUE, Integer.MAX_VALUE}) {
            int ahead = x.count(11);
            is(call + "(" + wrong + ")", asking.applyAsInt(wrong), -1);
            is("count(11) behind it", x.count(11), ahead + 1);
        }
    }

    private void endSentence() {
        due.is(sentence + "has answers", answers > 0 ? 1 : 0, 1);
    }

    void end(int first, int last) {
        endSentence();
        for (int promise = first; promise <= last; promise++) {
            due.is("promise " + promise + " is tested", named.contains(promise) ? 1 : 0, 1);
        }
        due.end();
    }
}
