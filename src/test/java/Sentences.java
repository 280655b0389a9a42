import java.io.IOException;
import java.nio.file.Files;
import java.nio.file.Path;
import java.util.Arrays;
import java.util.List;
import java.util.TreeMap;

/**
 * The document's own sentences: each that is quoted must stand there, a promise's own under its number, and
 * no word of the terms and the promises may be left that no quote has.
 */
final class Sentences {
    record Quote(int promise, String sentence) { }

    private static final int TERMS = 0;
    private static final int LAST_PROMISE = 27;

    private final TreeMap<Integer, String> parts = new TreeMap<>();
    private final TreeMap<Integer, boolean[]> quoted = new TreeMap<>();
    private final Due due;

    private Sentences(String document, Due due) {
        this.due = due;
        for (String part : document.split("\n## ")) {
            String head = part.lines().findFirst().orElse("");
            String body = part.substring(head.length());
            if (head.startsWith("Promise ")) {
                add(Integer.parseInt(head.substring(8, head.indexOf(':'))), body.replaceFirst("`[^`]*`: ", ""));
            } else if (head.equals("Terms")) {
                add(TERMS, body.replaceAll("(?m)^=+ [12] ", ""));
            } else if (head.equals("What it is") || head.equals("The public face")) {
                body.lines().filter(line -> line.startsWith("An object ") || line.contains(" final int ")).forEach(line -> add(TERMS, line));
            }
        }
    }

    private void add(int number, String body) {
        String text = plain(parts.getOrDefault(number, "") + " " + body.replaceAll("```\\w*", ""));
        parts.put(number, text);
        quoted.put(number, new boolean[text.length()]);
    }

    private static String plain(String text) {
        return text.replaceAll("\\s+", " ").trim();
    }

    /** Where the document is not at hand there is nothing to look at. */
    static void check(List<Quote> quotes, Due due) {
        Path path = Path.of("../shared/DOC.md");
        if (!Files.isReadable(path)) {
            System.out.println("no " + path + ": the quotes are not looked at");
            return;
        }
        try {
            new Sentences(Files.readString(path), due).check(quotes);
        } catch (IOException e) {
            due.holds(path + " can be read: " + e, false);
        }
    }

    private void check(List<Quote> quotes) {
        due.is("parts of the document", parts.size(), LAST_PROMISE + 1);
        for (Quote quote : quotes) {
            boolean own = mark(quote.promise, plain(quote.sentence));
            boolean terms = mark(TERMS, plain(quote.sentence));
            due.holds("'" + quote.sentence + "' stands in the terms or in promise " + quote.promise, own || terms);
        }
        for (int number : parts.keySet()) {
            due.is("words of " + (number == TERMS ? "the terms" : "promise " + number) + " that no quote has: '"
                + left(number) + "'", left(number).length(), 0);
        }
    }

    private boolean mark(int number, String sentence) {
        String text = parts.getOrDefault(number, "");
        int found = 0;
        for (int at = text.indexOf(sentence); at >= 0; at = text.indexOf(sentence, at + 1)) {
            Arrays.fill(quoted.get(number), at, at + sentence.length(), true);
            found++;
        }
        return found > 0;
    }

    private String left(int number) {
        StringBuilder left = new StringBuilder();
        String text = parts.get(number);
        for (int i = 0; i < text.length(); i++) {
            left.append(quoted.get(number)[i] ? ' ' : text.charAt(i));
        }
        return plain(left.toString().replaceAll("[^A-Za-z0-9]+", " "));
    }
}
