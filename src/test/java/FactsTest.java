/** Promises 18 to 25: what the calls of reading tell, at their edges and asked wrongly. */
public final class FactsTest {
    private static final Due due = new Due("FactsTest");
    private static final int MIN = Integer.MIN_VALUE;
    private static final int MAX = Integer.MAX_VALUE;

    public static void main(String[] args) {
        rule();
        client();
        subscription();
        kept();
        had();
        line();
        flight();
        took();
        due.finish();
    }

    private static void rule() {
        WildLevels x = Due.told("kept a 1 0;sub0 b 1 1;sub0 b 1 2;sub1 b 1 1;sub1 c 1 1;sub2 c 1 0;");
        due.is("rule(-1)", x.rule(-1), -1);
        due.is("rule(11)", x.rule(11), -1);
        due.is("rule(MIN)", x.rule(MIN), -1);
        due.is("rule(MAX)", x.rule(MAX), -1);
        due.is("rule(7), shares", x.rule(7), 3);
        x.tick(6);
        x.wake(2, 0, 0);
        Due.row(x, "c").say(2, 0, 9, 1, 0);
        x.carry(2, 0, 0);
        x.carry(2, 0, 0);
        x.carry(2, 1, 0);
        x.say(2, 0, 9, 0, 1);
        x.level(1);
        x.feed('s');
        x.feed('u');
        x.feed('b');
        x.keep(1);
        int[] want = {6, 3, 4, 1, 1, 1, 2, 3, 2, 3, 1};
        for (int what = 0; what <= 10; what++) {
            due.is("rule(" + what + ")", x.rule(what), want[what]);
        }
        x.keep(1);
        due.is("rule(10), the same image", x.rule(10), 1);
        x.keep(0);
        due.is("rule(10)", x.rule(10), 2);
        x.sleep(2, 0);
        due.is("rule(4), the session is at an end", x.rule(4), 1);
        due.is("rule(5)", x.rule(5), 1);
    }

    private static void client() {
        WildLevels x = Due.row(new WildLevels(), "a");
        x.tick(2);
        x.wake(3, 1, 40);
        x.subscribe(3, 2, 0);
        for (int n = 1; n <= 6; n++) {
            x.say(3, 0, n, 2, 0);
        }
        x.carry(3, 0, 0);
        x.carry(3, 0, 0);
        x.alias(3, 2);
        x.will(3, 1, 1, 1, 30);
        int[] awake = {1, 40, -4, 1, 4, 2, 2, 2, 2, 1, 1, -4, 2};
        for (int what = 0; what <= 12; what++) {
            due.is("client(3, " + what + "), awake", x.client(3, what), awake[what]);
        }
        x.sleep(3, 1);
        int[] asleep = {2, 40, 42, 1, 4, 2, 0, 0, 2, 1, 0, 32, 2};
        for (int what = 0; what <= 12; what++) {
            due.is("client(3, " + what + "), asleep", x.client(3, what), asleep[what]);
        }
        x.tick(40);
        int[] ended = {0, -4, -4, -4, -4, -4, -4, -4, -4, -4, -4, -4, 2};
        for (int what = 0; what <= 12; what++) {
            due.is("client(3, " + what + "), at an end", x.client(3, what), ended[what]);
        }
        due.is("client(-1, 0)", x.client(-1, 0), -1);
        due.is("client(6, 0)", x.client(6, 0), -1);
        due.is("client(3, -1)", x.client(3, -1), -1);
        due.is("client(3, 13)", x.client(3, 13), -1);
        due.is("client(MIN, 0)", x.client(MIN, 0), -1);
        due.is("client(MAX, MAX)", x.client(MAX, MAX), -1);
    }

    private static void subscription() {
        WildLevels x = Due.told("sub4 a/b/+/# 2 3;sub4 z 0 0;");
        int[] first = {4, 2, 3, -4, 1, 2, 27, 28};
        int[] second = {1, 0, 0, -4, 26, 0, 0, 0};
        for (int what = 0; what <= 7; what++) {
            due.is("subscription(4, 0, " + what + ")", x.subscription(4, 0, what), first[what]);
            due.is("subscription(4, 1, " + what + ")", x.subscription(4, 1, what), second[what]);
        }
        Due.row(x, "+");
        due.is("subscription(4, 1, 3), the row is no topic", x.subscription(4, 1, 3), -4);
        Due.row(x, "z");
        due.is("subscription(4, 1, 3)", x.subscription(4, 1, 3), 1);
        due.is("subscription(4, 0, 3)", x.subscription(4, 0, 3), 0);
        due.is("subscription(4, 2, 0)", x.subscription(4, 2, 0), -4);
        due.is("subscription(4, MAX, 0)", x.subscription(4, MAX, 0), -4);
        due.is("subscription(0, 0, 0), no session", x.subscription(0, 0, 0), -4);
        due.is("subscription(-1, 0, 0)", x.subscription(-1, 0, 0), -1);
        due.is("subscription(6, 0, 0)", x.subscription(6, 0, 0), -1);
        due.is("subscription(4, -1, 0)", x.subscription(4, -1, 0), -1);
        due.is("subscription(4, 0, -1)", x.subscription(4, 0, -1), -1);
        due.is("subscription(4, 0, 8)", x.subscription(4, 0, 8), -1);
        due.is("subscription(4, 9, 8)", x.subscription(4, 9, 8), -1);
    }

    private static void kept() {
        WildLevels x = Due.told("kept a/b/c/z 98 2;kept m 1 0;");
        int[] first = {4, 98, 2, 0, 1, 2, 3, 26};
        int[] second = {1, 1, 0, 1, 13, 0, 0, 0};
        for (int what = 0; what <= 7; what++) {
            due.is("kept(0, " + what + ")", x.kept(0, what), first[what]);
            due.is("kept(1, " + what + ")", x.kept(1, what), second[what]);
        }
        due.is("kept(2, 0)", x.kept(2, 0), -4);
        due.is("kept(MAX, 7)", x.kept(MAX, 7), -4);
        due.is("kept(-1, 0)", x.kept(-1, 0), -1);
        due.is("kept(0, -1)", x.kept(0, -1), -1);
        due.is("kept(0, 8)", x.kept(0, 8), -1);
        due.is("kept(5, 8)", x.kept(5, 8), -1);
    }

    private static void had() {
        WildLevels x = Due.told("sub4 a/# 1 2;sub1 a/# 1 3;sub1 a/# 1 0;");
        x.wake(0, 1, 1);
        Due.row(x, "a").say(0, 0, 1, 1, 0);
        due.is("had(2), the row is another filter", x.had(2), -4);
        Due.row(x, "a/#");
        due.is("had(1)", x.had(1), -4);
        due.is("had(2)", x.had(2), 4);
        due.is("had(3)", x.had(3), 1);
        due.is("had(0)", x.had(0), -1);
        due.is("had(4)", x.had(4), -1);
        due.is("had(MIN)", x.had(MIN), -1);
        x.top();
        due.is("had(2), the row is empty", x.had(2), -4);
    }

    private static void line() {
        WildLevels x = Due.row(new WildLevels(), "a");
        x.wake(2, 1, 9);
        x.subscribe(2, 2, 0);
        x.say(2, 0, 0, 2, 0);
        x.say(2, 0, 77, 0, 0);
        int[] first = {0, 1, 0, 2, 0};
        int[] second = {0, 0, 1, 0, 77};
        for (int what = 0; what <= 4; what++) {
            due.is("line(2, 0, 0, " + what + ")", x.line(2, 0, 0, what), first[what]);
            due.is("line(2, 0, 1, " + what + ")", x.line(2, 0, 1, what), second[what]);
            due.is("line(2, 0, 2, " + what + ")", x.line(2, 0, 2, what), -4);
        }
        x.carry(2, 0, 0);
        int[] reply = {2, 1, -4, -4, -4};
        for (int what = 0; what <= 4; what++) {
            due.is("line(2, 1, 0, " + what + ")", x.line(2, 1, 0, what), reply[what]);
        }
        due.is("line(2, 1, 1, 0)", x.line(2, 1, 1, 0), -4);
        due.is("line(2, 1, MAX, 0)", x.line(2, 1, MAX, 0), -4);
        due.is("line(0, 0, 0, 0), no session", x.line(0, 0, 0, 0), -4);
        due.is("line(-1, 0, 0, 0)", x.line(-1, 0, 0, 0), -1);
        due.is("line(6, 0, 0, 0)", x.line(6, 0, 0, 0), -1);
        due.is("line(2, -1, 0, 0)", x.line(2, -1, 0, 0), -1);
        due.is("line(2, 2, 0, 0)", x.line(2, 2, 0, 0), -1);
        due.is("line(2, 0, -1, 0)", x.line(2, 0, -1, 0), -1);
        due.is("line(2, 0, 0, -1)", x.line(2, 0, 0, -1), -1);
        due.is("line(2, 0, 0, 5)", x.line(2, 0, 0, 5), -1);
        due.is("line(2, 0, 9, 5)", x.line(2, 0, 9, 5), -1);
    }

    private static void flight() {
        WildLevels x = Due.row(new WildLevels(), "a");
        x.wake(2, 1, 9);
        x.subscribe(2, 2, 0);
        x.say(2, 0, 10, 0, 0);
        for (int n = 1; n <= 5; n++) {
            x.say(2, 0, 10 + n, 2, 0);
        }
        x.carry(2, 0, 0);
        x.carry(2, 0, 0);
        x.carry(2, 1, 0);
        int[] first = {1, 1, 2, 11, 1};
        int[] last = {0, 5, 2, 15, 0};
        for (int what = 0; what <= 4; what++) {
            due.is("flight(2, 0, " + what + ")", x.flight(2, 0, what), first[what]);
            due.is("flight(2, 4, " + what + "), in the queue", x.flight(2, 4, what), last[what]);
            due.is("flight(2, 5, " + what + ")", x.flight(2, 5, what), -4);
        }
        x.sleep(2, 0);
        due.is("flight(2, 0, 3), asleep", x.flight(2, 0, 3), 11);
        due.is("flight(2, MAX, 0)", x.flight(2, MAX, 0), -4);
        due.is("flight(0, 0, 0), no session", x.flight(0, 0, 0), -4);
        due.is("flight(-1, 0, 0)", x.flight(-1, 0, 0), -1);
        due.is("flight(6, 0, 0)", x.flight(6, 0, 0), -1);
        due.is("flight(2, -1, 0)", x.flight(2, -1, 0), -1);
        due.is("flight(2, 0, -1)", x.flight(2, 0, -1), -1);
        due.is("flight(2, 0, 5)", x.flight(2, 0, 5), -1);
        due.is("flight(2, 99, 5)", x.flight(2, 99, 5), -1);
    }

    private static void took() {
        WildLevels x = Due.told("kept a 33 1;");
        x.wake(1, 1, 0);
        Due.row(x, "a").subscribe(1, 1, 0);
        x.carry(1, 0, 0);
        x.carry(1, 1, 0);
        x.say(1, 0, 44, 2, 0);
        x.carry(1, 0, 0);
        x.carry(1, 1, 0);
        int[] first = {0, 33, 1, 1};
        int[] second = {1, 44, 1, 0};
        for (int what = 0; what <= 3; what++) {
            due.is("took(1, 0, " + what + ")", x.took(1, 0, what), first[what]);
            due.is("took(1, 1, " + what + ")", x.took(1, 1, what), second[what]);
            due.is("took(1, 2, " + what + ")", x.took(1, 2, what), -4);
        }
        for (int n = 3; n <= 34; n++) {
            x.say(1, 0, n, 0, 0);
            x.carry(1, 0, 0);
        }
        due.is("client(1, 12)", x.client(1, 12), 34);
        for (int i = 0; i < 30; i++) {
            due.is("took(1, " + i + ", 1) of the latest 30", x.took(1, i, 1), i + 5);
        }
        due.is("took(1, 30, 0)", x.took(1, 30, 0), -4);
        x.sleep(1, 0);
        due.is("took(1, 0, 1), no session", x.took(1, 0, 1), 5);
        due.is("took(1, MAX, 0)", x.took(1, MAX, 0), -4);
        due.is("took(-1, 0, 0)", x.took(-1, 0, 0), -1);
        due.is("took(6, 0, 0)", x.took(6, 0, 0), -1);
        due.is("took(1, -1, 0)", x.took(1, -1, 0), -1);
        due.is("took(1, 0, -1)", x.took(1, 0, -1), -1);
        due.is("took(1, 0, 4)", x.took(1, 0, 4), -1);
        due.is("took(1, 99, 4)", x.took(1, 99, 4), -1);
    }
}
