import java.util.ArrayList;
import java.util.List;

/**
 * The book of the boundary cases: sentence by sentence, each quoted from the document word for word under
 * the number of the promise by which it is seen, with the answers that stand on it.
 */
final class Edges {
    private final Due due;
    private final List<Sentences.Quote> quotes = new ArrayList<>();
    private String heading = "";
    private int answers = 1;

    Edges(String test) {
        due = new Due(test);
    }

    /** What is asked from here on stands on this sentence. */
    void edge(int promise, String sentence) {
        closeHeading();
        heading = "Promise " + promise + ", '" + sentence + "': ";
        answers = 0;
        quotes.add(new Sentences.Quote(promise, sentence));
    }

    /** A sentence that names no boundary, or says again what another one says. */
    void plain(int promise, String sentence) {
        quotes.add(new Sentences.Quote(promise, sentence));
    }

    /** Plays a script on a new object. */
    Run run(String script) {
        return new Run(this).then(script);
    }

    void is(String what, long got, long want) {
        answers++;
        due.is(heading + what, got, want);
    }

    /** Two tellings of all that can be seen. */
    void same(String what, List<String> got, List<String> want) {
        answers++;
        due.is(heading + what + ": how many facts", got.size(), want.size());
        for (int i = 0; i < Math.min(got.size(), want.size()); i++) {
            if (!got.get(i).equals(want.get(i))) {
                due.holds(heading + what + ": " + got.get(i) + ", due is " + want.get(i), false);
            }
        }
    }

    private void closeHeading() {
        if (answers == 0) {
            due.holds(heading + "nothing is asked", false);
        }
    }

    void finish() {
        closeHeading();
        Sentences.check(quotes, due);
        due.finish();
    }
}
