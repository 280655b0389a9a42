/** Promises 11 to 14: subscriptions, aliases, letters that are said, kept, shared. */
public final class LetterTest {
    private static final Due due = new Due("LetterTest");

    public static void main(String[] args) {
        subscribeWrong();
        subscribe();
        subscribeGetsKept();
        leave();
        alias();
        sayWrong();
        sayByPromises();
        sayKeeps();
        keptGiveWay();
        sayToSleepers();
        queues();
        shareTurns();
        shareOrder();
        shareIsLeft();
        shareOfAll();
        due.finish();
    }

    private static void subscribeWrong() {
        WildLevels x = new WildLevels();
        x.wake(0, 1, 9);
        due.is("subscribe, the row is empty", x.subscribe(0, 0, 0), -2);
        Due.row(x, "a");
        due.is("subscribe(-1, 0, 0)", x.subscribe(-1, 0, 0), -1);
        due.is("subscribe(6, 0, 0)", x.subscribe(6, 0, 0), -1);
        due.is("subscribe(0, -1, 0)", x.subscribe(0, -1, 0), -1);
        due.is("subscribe(0, 3, 0)", x.subscribe(0, 3, 0), -1);
        due.is("subscribe(0, 0, -1)", x.subscribe(0, 0, -1), -1);
        due.is("subscribe(0, 0, 4)", x.subscribe(0, 0, 4), -1);
        due.is("subscribe(1, 0, 0), no session", x.subscribe(1, 0, 0), -2);
        due.is("client(0, 3)", x.client(0, 3), 0);
        x.sleep(0, 0);
        due.is("subscribe(0, 0, 0), asleep", x.subscribe(0, 0, 0), -2);
    }

    private static void subscribe() {
        WildLevels x = new WildLevels();
        x.wake(0, 1, 9);
        String[] filters = {"a", "a/+", "+/#", "#", "a", "b"};
        for (int i = 0; i < 6; i++) {
            Due.row(x, filters[i]);
            due.is("subscribe to " + filters[i], x.subscribe(0, i % 3, i == 4 ? 3 : 0), 0);
            due.is("client(0, 3)", x.client(0, 3), i + 1);
        }
        Due.row(x, "c");
        due.is("subscribe, the 7th", x.subscribe(0, 0, 0), -3);
        due.is("client(0, 3)", x.client(0, 3), 6);
        Due.row(x, "a/+");
        due.is("subscription(0, 1, 1)", x.subscription(0, 1, 1), 1);
        due.is("subscribe, one that it has", x.subscribe(0, 2, 0), 0);
        due.is("subscription(0, 1, 1), new", x.subscription(0, 1, 1), 2);
        Due.row(x, "a");
        due.is("subscribe, the first that it has", x.subscribe(0, 2, 0), 0);
        due.is("subscription(0, 0, 1), new", x.subscription(0, 0, 1), 2);
        due.is("subscription(0, 4, 1), of a group", x.subscription(0, 4, 1), 1);
        Due.row(x, "a/+");
        due.is("client(0, 3)", x.client(0, 3), 6);
        due.is("subscribe, of another group the 7th", x.subscribe(0, 2, 1), -3);
        due.is("rule(7)", x.rule(7), 1);
    }

    private static void subscribeGetsKept() {
        WildLevels x = Due.told("kept b 7 1;kept a/z 99 2;kept a 4 2;kept a/y 5 0;");
        x.wake(0, 1, 9);
        Due.row(x, "a/#");
        due.is("subscribe(0, 1, 0)", x.subscribe(0, 1, 0), 3);
        int[][] packets = {{1, 1, 1, 99}, {2, 2, 1, 4}, {0, 3, 0, 5}};
        for (int i = 0; i < 3; i++) {
            for (int what = 1; what <= 4; what++) {
                int want = what == 1 ? packets[i][0] : what == 2 ? packets[i][1] : packets[i][what - 1];
                due.is("line(0, 0, " + i + ", " + what + ")", x.line(0, 0, i, what), want);
            }
        }
        due.is("rule(2), kept ones went", x.rule(2), 3);
        due.is("rule(1)", x.rule(1), 4);
        due.is("subscribe(0, 1, 2), of a group", x.subscribe(0, 1, 2), 0);
        due.is("subscribe(0, 2, 0), again", x.subscribe(0, 2, 0), 3);
        due.is("flight(0, 2, 2)", x.flight(0, 2, 2), 2);
        x.carry(0, 0, 0);
        due.is("took(0, 0, 3), as kept", x.took(0, 0, 3), 1);
        due.is("took(0, 0, 0)", x.took(0, 0, 0), 1);
        Due.row(x, "a");
        x.say(0, 0, 3, 0, 1);
        for (int n = 0; n < 6; n++) {
            x.carry(0, 0, 0);
        }
        due.is("took(0, 6, 1)", x.took(0, 6, 1), 3);
        due.is("took(0, 6, 3), kept, but not as kept", x.took(0, 6, 3), 0);
        due.is("took(0, 5, 1)", x.took(0, 5, 1), 5);
        due.is("took(0, 5, 3)", x.took(0, 5, 3), 1);
    }

    private static void leave() {
        WildLevels x = Due.told("sub0 a 0 0;sub0 b 1 1;sub0 b 2 0;sub1 b 0 1;");
        Due.row(x, "b");
        due.is("leave(0, 0), asleep", x.leave(0, 0), -2);
        due.is("leave(5, 0), no session", x.leave(5, 0), -2);
        x.wake(0, 0, 9);
        due.is("leave(-1, 0)", x.leave(-1, 0), -1);
        due.is("leave(6, 0)", x.leave(6, 0), -1);
        due.is("leave(0, -1)", x.leave(0, -1), -1);
        due.is("leave(0, 4)", x.leave(0, 4), -1);
        due.is("leave(0, 2)", x.leave(0, 2), -4);
        x.top();
        due.is("leave, the row is empty", x.leave(0, 0), -4);
        Due.row(x, "b");
        due.is("leave(0, 1)", x.leave(0, 1), 2);
        due.is("subscription(0, 1, 1), moved up", x.subscription(0, 1, 1), 2);
        due.is("subscription(0, 1, 2)", x.subscription(0, 1, 2), 0);
        due.is("rule(7), another is left in it", x.rule(7), 1);
        due.is("leave(0, 1), gone", x.leave(0, 1), -4);
        due.is("leave(0, 0)", x.leave(0, 0), 1);
        Due.row(x, "a");
        due.is("leave(0, 0), the last", x.leave(0, 0), 0);
        due.is("subscription(0, 0, 0)", x.subscription(0, 0, 0), -4);
    }

    private static void alias() {
        WildLevels x = Due.row(new WildLevels(), "a/b");
        due.is("alias(0, 1), no session", x.alias(0, 1), -2);
        x.wake(0, 1, 9);
        due.is("alias(-1, 1)", x.alias(-1, 1), -1);
        due.is("alias(6, 1)", x.alias(6, 1), -1);
        due.is("alias(0, 0)", x.alias(0, 0), -1);
        due.is("alias(0, 5)", x.alias(0, 5), -1);
        due.is("alias(0, 1)", x.alias(0, 1), 0);
        due.is("alias(0, 4)", x.alias(0, 4), 0);
        due.is("client(0, 9)", x.client(0, 9), 2);
        Due.row(x, "c");
        due.is("alias(0, 4), anew", x.alias(0, 4), 1);
        due.is("client(0, 9)", x.client(0, 9), 2);
        Due.row(x, "c/+");
        due.is("alias, ANY in the row", x.alias(0, 2), -2);
        due.is("alias(0, 5), ANY in the row", x.alias(0, 5), -1);
        x.top();
        due.is("alias, the row is empty", x.alias(0, 2), -2);
        x.say(0, 1, 5, 0, 1);
        x.say(0, 4, 6, 0, 1);
        due.is("kept(0, 0), by alias 1", x.kept(0, 0), 2);
        due.is("kept(1, 4), by alias 4", x.kept(1, 4), 3);
        x.sleep(0, 0);
        Due.row(x, "a");
        due.is("alias(0, 1), asleep", x.alias(0, 1), -2);
    }

    private static void sayWrong() {
        WildLevels x = Due.row(new WildLevels(), "a");
        due.is("say, no session", x.say(0, 0, 1, 0, 0), -2);
        x.wake(0, 1, 9);
        int[][] wrong = {{-1, 0, 1, 0, 0}, {6, 0, 1, 0, 0}, {0, -1, 1, 0, 0}, {0, 5, 1, 0, 0}, {0, 0, -1, 0, 0},
            {0, 0, 100, 0, 0}, {0, 0, 1, -1, 0}, {0, 0, 1, 3, 0}, {0, 0, 1, 0, -1}, {0, 0, 1, 0, 2}};
        for (int[] a : wrong) {
            due.is("say(" + a[0] + ", " + a[1] + ", " + a[2] + ", " + a[3] + ", " + a[4] + ")",
                x.say(a[0], a[1], a[2], a[3], a[4]), -1);
        }
        for (int k = 1; k <= 4; k++) {
            due.is("say, alias " + k + " is nothing", x.say(0, k, 1, 0, 0), -2);
        }
        x.top();
        due.is("say, the row is empty", x.say(0, 0, 1, 0, 0), -2);
        Due.row(x, "+");
        due.is("say, ANY in the row", x.say(0, 0, 1, 0, 0), -2);
        Due.row(x, "a/#");
        due.is("say, REST in the row", x.say(0, 0, 1, 0, 0), -2);
        due.is("rule(1), nothing was said", x.rule(1), 0);
        Due.row(x, "a");
        due.is("say(0, 0, 99, 2, 1)", x.say(0, 0, 99, 2, 1), 0);
        due.is("rule(1)", x.rule(1), 1);
        x.sleep(0, 0);
        due.is("say, asleep", x.say(0, 0, 1, 0, 0), -2);
    }

    /** One letter a session, by the lesser of its promise and the greatest of theirs. */
    private static void sayByPromises() {
        WildLevels x = Due.told("sub0 a 0 0;sub0 + 2 0;sub0 # 1 0;sub1 a 1 0;sub2 a 0 0;sub2 b 2 0;sub3 b 2 0;");
        for (int c = 0; c < 4; c++) {
            x.wake(c, 0, 9);
        }
        Due.row(x, "a");
        int[][] want = {{0, 0, 0}, {1, 1, 0}, {2, 1, 0}};
        for (int promise = 0; promise <= 2; promise++) {
            due.is("say by " + promise, x.say(3, 0, 5, promise, 0), 3);
            for (int c = 0; c < 3; c++) {
                due.is("client(" + c + ", 6)", x.client(c, 6), promise + 1);
                due.is("line(" + c + ", 0, .., 3)", x.line(c, 0, promise, 3), want[promise][c]);
                due.is("line(" + c + ", 0, .., 2)", x.line(c, 0, promise, 2), promise);
            }
        }
        due.is("client(3, 6)", x.client(3, 6), 0);
        due.is("rule(2)", x.rule(2), 9);
        due.is("line(0, 0, 0, 1), no number", x.line(0, 0, 0, 1), 0);
        due.is("line(0, 0, 1, 1)", x.line(0, 0, 1, 1), 1);
        due.is("line(0, 0, 2, 1)", x.line(0, 0, 2, 1), 2);
    }

    private static void sayKeeps() {
        WildLevels x = new WildLevels();
        x.wake(0, 1, 9);
        Due.row(x, "a").say(0, 0, 1, 0, 1);
        Due.row(x, "b").say(0, 0, 2, 1, 1);
        Due.row(x, "a").say(0, 0, 3, 2, 0);
        due.is("kept(0, 1), not kept anew", x.kept(0, 1), 1);
        x.say(0, 0, 4, 2, 1);
        due.is("rule(6)", x.rule(6), 2);
        due.is("kept(0, 1), b is the first", x.kept(0, 1), 2);
        due.is("kept(1, 1), a behind all", x.kept(1, 1), 4);
        due.is("kept(1, 2)", x.kept(1, 2), 2);
        due.is("kept(1, 3)", x.kept(1, 3), 3);
        x.say(0, 0, 0, 2, 0);
        due.is("rule(6), 0 without KEEP", x.rule(6), 2);
        x.say(0, 0, 0, 2, 1);
        due.is("rule(6), 0 with KEEP", x.rule(6), 1);
        x.say(0, 0, 0, 2, 1);
        due.is("rule(6), none to go", x.rule(6), 1);
        due.is("kept(0, 1)", x.kept(0, 1), 2);
        due.is("rule(1)", x.rule(1), 7);
    }

    private static void keptGiveWay() {
        WildLevels x = new WildLevels();
        x.wake(0, 1, 9);
        for (int i = 0; i < 12; i++) {
            Due.row(x, "" + (char) ('a' + i)).say(0, 0, i + 1, 0, 1);
        }
        Due.row(x, "a").say(0, 0, 50, 0, 1);
        due.is("rule(6), one kept anew", x.rule(6), 12);
        Due.row(x, "m").say(0, 0, 60, 0, 1);
        due.is("rule(6), the 13th", x.rule(6), 12);
        due.is("kept(0, 4), b gave way", x.kept(0, 4), 3);
        due.is("kept(10, 4)", x.kept(10, 4), 1);
        due.is("kept(11, 4)", x.kept(11, 4), 13);
        due.is("kept(12, 4)", x.kept(12, 4), -4);
    }

    private static void sayToSleepers() {
        WildLevels x = Due.told("sub0 a 2 0;");
        x.wake(1, 1, 9);
        Due.row(x, "a");
        due.is("say by 0", x.say(1, 0, 5, 0, 0), 1);
        due.is("rule(3), lost", x.rule(3), 1);
        due.is("rule(2), went all the same", x.rule(2), 1);
        for (int n = 1; n <= 14; n++) {
            due.is("say by 2", x.say(1, 0, n, 2, 0), 1);
            due.is("client(0, 5)", x.client(0, 5), Math.min(n, 12));
        }
        due.is("rule(3), two more lost", x.rule(3), 3);
        due.is("flight(0, 11, 3), the first stay", x.flight(0, 11, 3), 12);
        due.is("client(0, 4)", x.client(0, 4), 0);
    }

    private static void queues() {
        WildLevels x = Due.row(new WildLevels(), "a");
        x.wake(0, 1, 9);
        x.subscribe(0, 1, 0);
        for (int n = 1; n <= 17; n++) {
            due.is("say " + n, x.say(0, 0, n, 1, 0), 1);
        }
        due.is("client(0, 4)", x.client(0, 4), 4);
        due.is("client(0, 5)", x.client(0, 5), 12);
        due.is("client(0, 6)", x.client(0, 6), 4);
        due.is("rule(3)", x.rule(3), 1);
        for (int n = 0; n < 12; n++) {
            x.say(0, 0, 30 + n, 0, 0);
        }
        due.is("client(0, 6), a full line", x.client(0, 6), 16);
        x.say(0, 0, 50, 0, 0);
        due.is("client(0, 6), one more is lost on it", x.client(0, 6), 16);
        due.is("rule(3), not counted", x.rule(3), 1);
        due.is("rule(2)", x.rule(2), 30);
    }

    private static void shareTurns() {
        WildLevels x = Due.told("sub0 a 0 1;sub2 a 1 1;sub4 a 2 1;");
        x.wake(5, 1, 9);
        Due.row(x, "a");
        due.is("had(1), nobody yet", x.had(1), -4);
        int[] asleep = {0, 2, 4, 0};
        for (int c : asleep) {
            due.is("say, all are asleep", x.say(5, 0, 1, 2, 0), 1);
            due.is("had(1)", x.had(1), c);
        }
        due.is("rule(3), by promise 0 to sleepers", x.rule(3), 2);
        due.is("flight(4, 0, 2)", x.flight(4, 0, 2), 2);
        due.is("flight(2, 0, 2)", x.flight(2, 0, 2), 1);
        x.wake(4, 0, 9);
        for (int n = 0; n < 2; n++) {
            x.say(5, 0, 1, 2, 0);
            due.is("had(1), the only one awake", x.had(1), 4);
        }
        x.wake(2, 0, 9);
        int[] awake = {2, 4, 2};
        for (int c : awake) {
            x.say(5, 0, 1, 2, 0);
            due.is("had(1), awake ones by turns", x.had(1), c);
        }
        Due.row(x, "b");
        due.is("had(1), no such share", x.had(1), -4);
        due.is("had(0)", x.had(0), -1);
        due.is("had(4)", x.had(4), -1);
    }

    /** By group 0 first, then by group, of one group by filter: as numbers in one line tell. */
    private static void shareOrder() {
        WildLevels x = Due.told("sub0 # 2 2;sub0 + 2 2;sub0 a/# 1 1;sub0 # 1 1;sub0 a/b 2 1;sub0 a/+ 2 1;");
        x.wake(0, 0, 9);
        x.wake(1, 1, 9);
        Due.row(x, "a/b");
        due.is("say", x.say(1, 0, 7, 2, 0), 5);
        int[] promises = {2, 2, 1, 1, 2};
        for (int i = 0; i < 5; i++) {
            due.is("flight(0, " + i + ", 2)", x.flight(0, i, 2), promises[i]);
        }
        WildLevels y = Due.told("sub0 a 1 3;sub0 a/# 2 3;sub0 # 1 0;sub0 a 2 1;");
        y.wake(0, 0, 9);
        Due.row(y, "a");
        due.is("say", y.say(0, 0, 7, 2, 0), 4);
        int[] then = {1, 2, 1, 2};
        for (int i = 0; i < 4; i++) {
            due.is("flight(0, " + i + ", 2), one that ends first is first", y.flight(0, i, 2), then[i]);
        }
        due.is("rule(7)", y.rule(7), 3);
    }

    /** All six by turns, each from the one before it; sleepers are passed over, client 0 is not. */
    private static void shareOfAll() {
        WildLevels x = Due.told("sub0 a/b/c/d 0 3;sub1 a/b/c/d 0 3;sub2 a/b/c/d 0 3;"
            + "sub3 a/b/c/d 0 3;sub4 a/b/c/d 0 3;sub5 a/b/c/d 0 3;");
        Due.row(x, "a/b/c/d");
        x.wake(0, 0, 50);
        x.say(0, 0, 1, 0, 0);
        due.is("had(3), the only one awake", x.had(3), 0);
        x.say(0, 0, 1, 0, 0);
        due.is("had(3), again", x.had(3), 0);
        for (int c = 1; c < 6; c++) {
            x.wake(c, 0, 50);
        }
        for (int n = 1; n <= 13; n++) {
            due.is("say", x.say(0, 0, n, 0, 1), 1);
            due.is("had(3), by turns", x.had(3), n % 6);
        }
        for (int c = 1; c < 6; c++) {
            x.leave(c, 3);
        }
        due.is("had(3), client 0 is left in it", x.had(3), 1);
        x.carry(0, 0, 0);
        due.is("took(0, 0, 3), not as kept", x.took(0, 0, 3), 0);
        Due.row(x, "a/b/c/e");
        due.is("say to another topic", x.say(0, 0, 1, 0, 0), 0);
        due.is("had(3) of another filter", x.had(3), -4);
    }

    private static void shareIsLeft() {
        WildLevels x = Due.told("sub0 a 1 1;sub3 a 1 1;");
        x.wake(0, 0, 9);
        x.wake(3, 0, 9);
        Due.row(x, "a");
        x.say(0, 0, 1, 1, 0);
        due.is("had(1)", x.had(1), 0);
        x.leave(0, 1);
        due.is("had(1), it left, the share stays", x.had(1), 0);
        x.subscribe(0, 1, 1);
        x.say(0, 0, 1, 1, 0);
        due.is("had(1), the turns go on", x.had(1), 3);
        x.leave(0, 1);
        x.leave(3, 1);
        due.is("had(1), no more of it", x.had(1), -4);
        x.subscribe(3, 1, 1);
        x.subscribe(0, 1, 1);
        due.is("had(1), a new one", x.had(1), -4);
        x.say(0, 0, 1, 1, 0);
        due.is("had(1), from client 0 on", x.had(1), 0);
    }
}
