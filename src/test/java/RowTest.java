/** Promises 6 and 7: the row; and how filters match topics. */
public final class RowTest {
    private static final Due due = new Due("RowTest");

    public static void main(String[] args) {
        levels();
        matches();
        due.finish();
    }

    private static void levels() {
        WildLevels x = new WildLevels();
        due.is("top() of none", x.top(), 0);
        due.is("level(0)", x.level(0), -1);
        due.is("level(29)", x.level(29), -1);
        due.is("level(1)", x.level(1), 1);
        due.is("level(26)", x.level(26), 2);
        due.is("level(27)", x.level(27), 3);
        due.is("rule(8)", x.rule(8), 3);
        due.is("level(28)", x.level(28), 4);
        due.is("level(1) behind REST as the 4th", x.level(1), -2);
        due.is("level(28) behind REST", x.level(28), -2);
        due.is("level(29) behind REST", x.level(29), -1);
        due.is("rule(8) of 4", x.rule(8), 4);
        due.is("top()", x.top(), 4);
        due.is("rule(8) behind top()", x.rule(8), 0);
        due.is("level(28) as the first", x.level(28), 1);
        due.is("level(27) behind REST", x.level(27), -2);
        due.is("top() of REST", x.top(), 1);
        for (int n = 1; n <= 4; n++) {
            due.is("level(5), the " + n + ".", x.level(5), n);
        }
        due.is("level(5), the 5.", x.level(5), -3);
        due.is("level(28), the 5.", x.level(28), -3);
        due.is("level(0), the 5.", x.level(0), -1);
    }

    private static void matches() {
        match("a", "a", 1);
        match("a", "b", 0);
        match("a", "a/a", 0);
        match("a/b", "a", 0);
        match("z", "z", 1);
        match("+", "a", 1);
        match("+", "a/b", 0);
        match("+/+", "a", 0);
        match("+/b", "a/b", 1);
        match("+/b", "a/c", 0);
        match("a/+/c", "a/z/c", 1);
        match("a/+/c", "a/z/d", 0);
        match("#", "a", 1);
        match("#", "a/b/c/d", 1);
        match("a/#", "a", 1);
        match("a/#", "a/b", 1);
        match("a/#", "a/b/c/d", 1);
        match("a/#", "b", 0);
        match("a/#", "b/a", 0);
        match("a/b/#", "a", 0);
        match("a/+/#", "a", 0);
        match("a/+/#", "a/b", 1);
        match("a/b/c/#", "a/b/c", 1);
        match("a/b/c/#", "a/b/c/d", 1);
        match("a/b/c/#", "a/b", 0);
        match("a/b/c/d", "a/b/c/d", 1);
        match("a/b/c/d", "a/b/c/e", 0);
        match("a/b/c/+", "a/b/c", 0);
        match("+/+/+/+", "a/b/c/d", 1);
    }

    /** By a subscription that is looked at, and by a letter that goes. */
    private static void match(String filter, String topic, int want) {
        WildLevels x = Due.row(new WildLevels(), filter);
        x.wake(0, 1, 0);
        x.subscribe(0, 0, 0);
        Due.row(x, topic);
        due.is(filter + " matches " + topic, x.subscription(0, 0, 3), want);
        due.is(filter + " gets " + topic, x.say(0, 0, 1, 0, 1), want);
        Due.row(x, filter);
        due.is(filter + " gets kept " + topic, x.subscribe(0, 0, 0), want);
    }
}
