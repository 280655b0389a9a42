import java.lang.reflect.Method;
import java.util.HashMap;
import java.util.Map;
import java.util.regex.Matcher;
import java.util.regex.Pattern;

/**
 * A new object and a script of calls on it, as "wake(0,1,9)=0 row:a/# 3*tick(1) rule(0)=3": a call whose
 * answer is due has it behind =, by its name or as a number; n* calls n times; row: makes THE ROW a filter;
 * type: feeds a text, _ for a blank; told: feeds a text that must be taken. More than 512 calls are a fault
 * of the script: behind them every answer is free.
 */
final class Run {
    private static final int MOST_CALLS = 512;
    private static final Pattern CALL = Pattern.compile("(?:(\\d+)\\*)?(\\w+)\\(([^)]*)\\)(?:=(\\S+))?");
    private static final Map<String, Method> METHODS = new HashMap<>();
    private static final Map<String, Integer> NAMES = Map.of("BAD", -1, "STATE", -2, "FULL", -3, "NONE", -4,
        "MIN", Integer.MIN_VALUE, "MAX", Integer.MAX_VALUE);

    static {
        for (Method method : WildLevels.class.getMethods()) {
            METHODS.put(method.getName(), method);
        }
    }

    private final Edges edges;
    private final WildLevels x = new WildLevels();
    private final StringBuilder script = new StringBuilder();
    private int calls;

    Run(Edges edges) {
        this.edges = edges;
    }

    Run then(String more) {
        for (String step : more.trim().split("\\s+")) {
            play(step);
        }
        return this;
    }

    private void play(String step) {
        if (step.startsWith("row:")) {
            row(step.substring(4));
        } else if (step.startsWith("type:")) {
            type(step.substring(5).replace('_', ' '));
        } else if (step.startsWith("told:")) {
            told(step.substring(5).replace('_', ' '));
        } else if (!step.isEmpty()) {
            calls(step);
        }
    }

    private void calls(String step) {
        Matcher m = CALL.matcher(step);
        if (!m.matches()) {
            throw new IllegalArgumentException("no step of a script: " + step);
        }
        int times = m.group(1) == null ? 1 : Integer.parseInt(m.group(1));
        for (int n = 0; n < times; n++) {
            int got = invoke(m.group(2), m.group(3));
            if (m.group(4) != null) {
                int want = number(m.group(4));
                edges.is(got == want ? step : script + ">> " + step + " <<", got, want);
            }
        }
        script.append(step).append(' ');
    }

    private static int number(String text) {
        return NAMES.containsKey(text) ? NAMES.get(text) : Integer.parseInt(text);
    }

    /** The answer of one call, as line(0,1,0,0). */
    int ask(String call) {
        Matcher m = CALL.matcher(call);
        if (!m.matches()) {
            throw new IllegalArgumentException("no call: " + call);
        }
        return invoke(m.group(2), m.group(3));
    }

    private int invoke(String name, String list) {
        if (calls >= MOST_CALLS) {
            throw new IllegalStateException("more than " + MOST_CALLS + " calls: " + script);
        }
        calls++;
        String[] parts = list.isEmpty() ? new String[0] : list.split(",");
        Object[] arguments = new Object[parts.length];
        for (int i = 0; i < parts.length; i++) {
            arguments[i] = number(parts[i]);
        }
        try {
            return (Integer) METHODS.get(name).invoke(x, arguments);
        } catch (ReflectiveOperationException e) {
            throw new IllegalStateException(script + ">> " + name + "(" + list + ") <<", e);
        }
    }

    Run row(String filter) {
        ask("top()");
        for (char sign : filter.replace("/", "").toCharArray()) {
            ask("level(" + (sign == '+' ? 27 : sign == '#' ? 28 : sign - 'a' + 1) + ")");
        }
        script.append("row:").append(filter).append(' ');
        return this;
    }

    Run type(String text) {
        for (char sign : text.toCharArray()) {
            ask("feed(" + (int) sign + ")");
        }
        script.append("type:").append(text).append(' ');
        return this;
    }

    Run told(String text) {
        type(text);
        if (ask("text()") < 0) {
            throw new IllegalStateException("fault " + ask("fault()") + " in " + text);
        }
        return this;
    }

    /** How many calls there were. */
    int calls() {
        return calls;
    }
}
