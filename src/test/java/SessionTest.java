/** Promises 8 to 10: how clients wake and sleep, and their wills. */
public final class SessionTest {
    private static final Due due = new Due("SessionTest");

    public static void main(String[] args) {
        wakeWrong();
        wakeGoesOn();
        wakeCleanIsNew();
        wakeSendsAgainThenQueue();
        sleepWrong();
        sleepEndsSessions();
        willWrong();
        willOrderly();
        willBroken();
        willNow();
        willGoesToItself();
        willIsCancelled();
        due.finish();
    }

    private static void wakeWrong() {
        WildLevels x = new WildLevels();
        due.is("wake(-1, 0, 0)", x.wake(-1, 0, 0), -1);
        due.is("wake(6, 0, 0)", x.wake(6, 0, 0), -1);
        due.is("wake(0, -1, 0)", x.wake(0, -1, 0), -1);
        due.is("wake(0, 2, 0)", x.wake(0, 2, 0), -1);
        due.is("wake(0, 0, -1)", x.wake(0, 0, -1), -1);
        due.is("wake(0, 0, 100)", x.wake(0, 0, 100), -1);
        due.is("client(0, 0)", x.client(0, 0), 0);
        due.is("wake(5, 1, 99)", x.wake(5, 1, 99), 0);
        due.is("wake(5, 1, 99) again", x.wake(5, 1, 99), -2);
        due.is("wake(5, 2, 99) again", x.wake(5, 2, 99), -1);
        due.is("client(5, 1)", x.client(5, 1), 99);
        due.is("client(5, 2)", x.client(5, 2), -4);
    }

    private static void wakeGoesOn() {
        WildLevels x = Due.row(new WildLevels(), "a");
        due.is("wake(0, 0, 9), no session", x.wake(0, 0, 9), 0);
        x.subscribe(0, 1, 0);
        x.alias(0, 3);
        x.say(0, 0, 4, 2, 0);
        x.sleep(0, 0);
        due.is("wake(0, 0, 3)", x.wake(0, 0, 3), 1);
        due.is("client(0, 1), the new life", x.client(0, 1), 3);
        due.is("client(0, 3)", x.client(0, 3), 1);
        due.is("client(0, 4)", x.client(0, 4), 1);
        due.is("client(0, 9)", x.client(0, 9), 1);
        due.is("say by the old alias", x.say(0, 3, 5, 1, 0), 1);
        due.is("flight(0, 1, 0), numbers go on", x.flight(0, 1, 0), 2);
        x.tick(50);
        due.is("client(0, 0), awake for long", x.client(0, 0), 1);
    }

    private static void wakeCleanIsNew() {
        WildLevels x = Due.row(new WildLevels(), "a");
        x.wake(0, 1, 9);
        x.subscribe(0, 2, 0);
        x.subscribe(0, 2, 1);
        x.alias(0, 1);
        x.say(0, 0, 4, 2, 0);
        x.carry(0, 0, 0);
        due.is("client(0, 8)", x.client(0, 8), 1);
        due.is("had(1)", x.had(1), 0);
        x.sleep(0, 0);
        due.is("wake(0, 1, 9)", x.wake(0, 1, 9), 0);
        for (int what = 3; what <= 10; what++) {
            due.is("client(0, " + what + ") of a new session", x.client(0, what), 0);
        }
        due.is("client(0, 12) of all its sessions", x.client(0, 12), 1);
        due.is("took(0, 0, 1)", x.took(0, 0, 1), 4);
        due.is("had(1), the share is no more", x.had(1), -4);
        x.subscribe(0, 2, 1);
        due.is("had(1), a new share", x.had(1), -4);
        x.say(0, 0, 4, 2, 0);
        due.is("flight(0, 0, 0), numbers from 1 on", x.flight(0, 0, 0), 1);
    }

    private static void wakeSendsAgainThenQueue() {
        WildLevels x = Due.row(new WildLevels(), "a");
        x.wake(0, 1, 9);
        x.wake(1, 1, 9);
        x.subscribe(0, 2, 0);
        x.say(1, 0, 10, 2, 0);
        x.say(1, 0, 11, 1, 0);
        x.carry(0, 0, 0);
        x.carry(0, 1, 0);
        due.is("flight(0, 0, 4)", x.flight(0, 0, 4), 1);
        x.sleep(0, 1);
        due.is("client(0, 6), asleep", x.client(0, 6), 0);
        due.is("client(0, 7), asleep", x.client(0, 7), 0);
        for (int value = 12; value <= 14; value++) {
            x.say(1, 0, value, 1, 0);
        }
        due.is("client(0, 5), asleep", x.client(0, 5), 3);
        due.is("client(0, 4), asleep", x.client(0, 4), 2);
        x.wake(0, 0, 9);
        int[][] packets = {{3, 1, -4}, {0, 2, 11}, {0, 3, 12}, {0, 4, 13}};
        for (int i = 0; i < 4; i++) {
            due.is("line(0, 0, " + i + ", 0)", x.line(0, 0, i, 0), packets[i][0]);
            due.is("line(0, 0, " + i + ", 1)", x.line(0, 0, i, 1), packets[i][1]);
            due.is("line(0, 0, " + i + ", 4)", x.line(0, 0, i, 4), packets[i][2]);
        }
        due.is("client(0, 6)", x.client(0, 6), 4);
        due.is("client(0, 5)", x.client(0, 5), 1);
        due.is("client(0, 8), still known", x.client(0, 8), 1);
    }

    private static void sleepWrong() {
        WildLevels x = new WildLevels();
        due.is("sleep(0, 0), no session", x.sleep(0, 0), -2);
        x.wake(0, 1, 5);
        due.is("sleep(-1, 0)", x.sleep(-1, 0), -1);
        due.is("sleep(6, 0)", x.sleep(6, 0), -1);
        due.is("sleep(0, -1)", x.sleep(0, -1), -1);
        due.is("sleep(0, 2)", x.sleep(0, 2), -1);
        due.is("client(0, 0)", x.client(0, 0), 1);
        due.is("sleep(0, 1), no will", x.sleep(0, 1), 0);
        due.is("client(0, 11)", x.client(0, 11), -4);
        due.is("sleep(0, 0), asleep", x.sleep(0, 0), -2);
        due.is("sleep(0, 2), asleep", x.sleep(0, 2), -1);
    }

    private static void sleepEndsSessions() {
        WildLevels x = Due.row(new WildLevels(), "a");
        x.tick(7);
        x.wake(0, 1, 0);
        x.wake(1, 1, 3);
        x.wake(2, 1, 3);
        x.subscribe(0, 0, 2);
        due.is("sleep(0, 0), life 0", x.sleep(0, 0), 0);
        due.is("client(0, 0), ends now", x.client(0, 0), 0);
        due.is("client(0, 1)", x.client(0, 1), -4);
        due.is("rule(7)", x.rule(7), 0);
        x.sleep(1, 0);
        x.sleep(2, 1);
        due.is("client(1, 2)", x.client(1, 2), 10);
        due.is("client(2, 2)", x.client(2, 2), 10);
        x.tick(2);
        due.is("client(1, 0)", x.client(1, 0), 2);
        x.wake(2, 0, 3);
        x.tick(1);
        due.is("client(1, 0), at an end", x.client(1, 0), 0);
        due.is("client(2, 0), awake again", x.client(2, 0), 1);
        x.sleep(2, 0);
        due.is("client(2, 2), from now on", x.client(2, 2), 13);
    }

    private static void willWrong() {
        WildLevels x = new WildLevels();
        x.wake(0, 1, 9);
        due.is("will, the row is empty", x.will(0, 1, 0, 0, 0), -2);
        Due.row(x, "a/+");
        due.is("will, ANY in the row", x.will(0, 1, 0, 0, 0), -2);
        Due.row(x, "a/#");
        due.is("will, REST in the row", x.will(0, 1, 0, 0, 0), -2);
        Due.row(x, "a/z");
        int[][] wrong = {{-1, 1, 0, 0, 0}, {6, 1, 0, 0, 0}, {0, -1, 0, 0, 0}, {0, 100, 0, 0, 0}, {0, 1, -1, 0, 0},
            {0, 1, 3, 0, 0}, {0, 1, 0, -1, 0}, {0, 1, 0, 2, 0}, {0, 1, 0, 0, -1}, {0, 1, 0, 0, 51}};
        for (int[] a : wrong) {
            due.is("will(" + a[0] + ", " + a[1] + ", " + a[2] + ", " + a[3] + ", " + a[4] + ")",
                x.will(a[0], a[1], a[2], a[3], a[4]), -1);
        }
        due.is("client(0, 10)", x.client(0, 10), 0);
        due.is("will of one that is no session", x.will(1, 1, 0, 0, 0), -2);
        due.is("will(0, 0, 2, 1, 50)", x.will(0, 0, 2, 1, 50), 0);
        due.is("client(0, 10) with one", x.client(0, 10), 1);
        due.is("will(0, 99, 0, 0, 0)", x.will(0, 99, 0, 0, 0), 1);
        x.sleep(0, 0);
        due.is("will, asleep", x.will(0, 1, 0, 0, 0), -2);
        due.is("client(0, 10), asleep", x.client(0, 10), 0);
    }

    private static void willOrderly() {
        WildLevels x = Due.row(new WildLevels(), "a");
        x.wake(0, 1, 9);
        x.will(0, 5, 0, 1, 0);
        due.is("sleep(0, 0)", x.sleep(0, 0), 0);
        due.is("client(0, 11)", x.client(0, 11), -4);
        due.is("tick(9)", x.tick(9), 0);
        due.is("rule(1)", x.rule(1), 0);
    }

    private static void willBroken() {
        WildLevels x = Due.row(new WildLevels(), "a");
        x.tick(4);
        x.wake(0, 1, 9);
        x.wake(1, 1, 2);
        x.wake(2, 1, 0);
        x.subscribe(2, 2, 0);
        x.will(0, 70, 2, 1, 3);
        x.will(1, 71, 1, 0, 50);
        due.is("sleep(0, 1)", x.sleep(0, 1), 0);
        due.is("sleep(1, 1)", x.sleep(1, 1), 0);
        due.is("client(0, 10)", x.client(0, 10), 0);
        due.is("client(0, 11), its delay", x.client(0, 11), 7);
        due.is("client(1, 11), its life", x.client(1, 11), 6);
        Due.row(x, "b");
        due.is("tick(1)", x.tick(1), 0);
        due.is("rule(1)", x.rule(1), 0);
        due.is("tick(1), the second", x.tick(1), 1);
        due.is("client(1, 0)", x.client(1, 0), 0);
        due.is("client(1, 11)", x.client(1, 11), -4);
        due.is("tick(5)", x.tick(5), 1);
        due.is("client(0, 0)", x.client(0, 0), 2);
        due.is("rule(0)", x.rule(0), 11);
        due.is("rule(1), two letters", x.rule(1), 2);
        due.is("line(2, 0, 0, 4)", x.line(2, 0, 0, 4), 71);
        due.is("line(2, 0, 0, 3)", x.line(2, 0, 0, 3), 1);
        due.is("line(2, 0, 1, 4)", x.line(2, 0, 1, 4), 70);
        due.is("line(2, 0, 1, 3)", x.line(2, 0, 1, 3), 2);
        due.is("rule(6)", x.rule(6), 1);
        due.is("kept(0, 1)", x.kept(0, 1), 70);
        due.is("kept(0, 3)", x.kept(0, 3), 1);
        due.is("kept(0, 4), the topic of then", x.kept(0, 4), 1);
        due.is("tick(50), said once", x.tick(50), 0);
    }

    private static void willNow() {
        WildLevels x = Due.row(new WildLevels(), "a");
        x.wake(0, 1, 5);
        x.wake(1, 1, 0);
        x.subscribe(1, 0, 0);
        x.subscribe(1, 0, 3);
        x.will(0, 8, 1, 0, 0);
        due.is("sleep(0, 1), delay 0", x.sleep(0, 1), 2);
        due.is("client(0, 11)", x.client(0, 11), -4);
        due.is("client(1, 6)", x.client(1, 6), 2);
        x.wake(0, 0, 0);
        x.will(0, 9, 1, 0, 50);
        due.is("sleep(0, 1), life 0", x.sleep(0, 1), 2);
        due.is("client(0, 0)", x.client(0, 0), 0);
        due.is("tick(50)", x.tick(50), 0);
    }

    /** It is asleep, and has its session still, when its own will is said. */
    private static void willGoesToItself() {
        WildLevels x = Due.row(new WildLevels(), "a");
        x.wake(0, 1, 4);
        x.subscribe(0, 1, 0);
        x.will(0, 8, 1, 0, 0);
        due.is("sleep(0, 1)", x.sleep(0, 1), 1);
        due.is("client(0, 5)", x.client(0, 5), 1);
        x.wake(0, 0, 0);
        x.will(0, 9, 0, 0, 0);
        due.is("sleep(0, 1), life 0", x.sleep(0, 1), 1);
        due.is("rule(3)", x.rule(3), 1);
        due.is("client(0, 0)", x.client(0, 0), 0);
    }

    private static void willIsCancelled() {
        WildLevels x = Due.row(new WildLevels(), "a");
        for (int clean = 0; clean <= 1; clean++) {
            x.wake(0, 0, 9);
            x.will(0, 8, 1, 0, 2);
            x.sleep(0, 1);
            x.tick(1);
            due.holds("a will is due", x.client(0, 11) > 0);
            x.wake(0, clean, 9);
            due.is("client(0, 11), awake", x.client(0, 11), -4);
            due.is("client(0, 10), awake", x.client(0, 10), 0);
            due.is("tick(5)", x.tick(5), 0);
            due.is("sleep(0, 1), no will", x.sleep(0, 1), 0);
        }
    }
}
