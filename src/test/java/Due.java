/** What a test is due: counts the answers, prints each wrong one, and ends the program. */
final class Due {
    private final String test;
    private int right;
    private int wrong;

    Due(String test) {
        this.test = test;
    }

    void is(String what, long got, long want) {
        if (got == want) {
            right++;
            return;
        }
        wrong++;
        System.out.println(test + ": " + what + " answered " + got + ", due is " + want);
    }

    void holds(String what, boolean holds) {
        is(what, holds ? 1 : 0, 1);
    }

    void finish() {
        System.out.println(test + ": " + right + " answers as due, " + wrong + " not");
        if (wrong != 0 || right == 0) {
            System.exit(1);
        }
    }

    /** Feeds the bytes of a text. */
    static WildLevels type(WildLevels x, String text) {
        for (int i = 0; i < text.length(); i++) {
            x.feed(text.charAt(i));
        }
        return x;
    }

    /** A new object that was told a text; the text must be one that is taken. */
    static WildLevels told(String text) {
        WildLevels x = type(new WildLevels(), text);
        if (x.text() < 0) {
            throw new IllegalStateException("fault " + x.fault() + " in " + text);
        }
        return x;
    }

    /** Makes THE ROW a filter that is written as in a text, as a/+/#; nothing for an empty row. */
    static WildLevels row(WildLevels x, String filter) {
        x.top();
        for (int i = 0; i < filter.length(); i++) {
            char sign = filter.charAt(i);
            if (sign != '/') {
                x.level(sign == '+' ? 27 : sign == '#' ? 28 : sign - 'a' + 1);
            }
        }
        return x;
    }
}
