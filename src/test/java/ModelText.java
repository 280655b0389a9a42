import java.util.ArrayList;
import java.util.List;
import java.util.regex.Matcher;
import java.util.regex.Pattern;

/** The text of the document read a second time, by patterns, for Model. */
final class ModelText {
    /** A line; client is -1 for kept, group and value are 0 where there is none. */
    record Line(int client, String path, int value, int promise, int group) { }

    private static final Pattern TOKEN = Pattern.compile("[a-z]+|[0-9]+|[/+#;]");

    int fault;
    int place;
    final List<Line> lines = new ArrayList<>();

    private final String source;
    private String token;
    private int at;
    private int behind;

    ModelText(String source) {
        this.source = source;
        boolean going = next();
        while (going && !token.isEmpty()) {
            going = line();
        }
    }

    private boolean wrong(int what) {
        fault = what;
        place = at;
        return false;
    }

    /** Goes on to the token behind this one; the end is an empty token. */
    private boolean next() {
        at = behind;
        while (at < source.length() && source.charAt(at) == ' ') at++;
        token = "";
        if (at == source.length()) return true;
        Matcher m = TOKEN.matcher(source).region(at, source.length());
        if (!m.lookingAt()) return wrong(1);
        token = m.group();
        behind = m.end();
        return !token.matches("[0-9]{3,}") || wrong(1);
    }

    private boolean line() {
        boolean sub = token.equals("sub");
        if (!sub && !token.equals("kept")) return wrong(2);
        if (!next()) return false;
        int[] client = {-1}, value = {0}, promise = {0}, group = {0};
        StringBuilder path = new StringBuilder();
        boolean well = sub
            ? number(client, 0, 5) && path(path, "[a-z+#]") && number(promise, 0, 2) && number(group, 0, 3)
            : path(path, "[a-z]") && number(value, 1, 99) && number(promise, 0, 2);
        if (!well) return false;
        if (!token.equals(";")) return wrong(2);
        Line line = new Line(client[0], path.toString(), value[0], promise[0], group[0]);
        int same = 0;
        for (Line other : lines) {
            if (other.client != line.client) continue;
            if (other.path.equals(line.path) && other.group == line.group) return wrong(4);
            same++;
        }
        if (same >= (sub ? 6 : 12)) return wrong(5);
        lines.add(line);
        return next();
    }

    private boolean number(int[] into, int least, int most) {
        if (!token.matches("[0-9]+")) return wrong(2);
        into[0] = Integer.parseInt(token);
        return into[0] < least || into[0] > most ? wrong(3) : next();
    }

    private boolean path(StringBuilder path, String one) {
        while (true) {
            if (!token.matches(one)) return wrong(2);
            path.append(token.equals("+") ? "{" : token.equals("#") ? "|" : token);
            boolean rest = token.equals("#");
            if (!next()) return false;
            if (!token.equals("/")) return true;
            if (rest || path.length() == 4) return wrong(2);
            if (!next()) return false;
        }
    }
}
