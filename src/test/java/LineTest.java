/** Promises 15 to 17: packets that are carried, lost, doubled, sent again; ticks. */
public final class LineTest {
    private static final Due due = new Due("LineTest");

    public static void main(String[] args) {
        carryWrong();
        atMostOnce();
        atLeastOnce();
        justOnce();
        justOnceThroughASleep();
        doubledHad();
        queueGoesOn();
        fullLines();
        again();
        tick();
        ticksByClients();
        due.finish();
    }

    /** Client 0 is awake, has a subscription to a by a promise, and THE ROW is a. */
    private static WildLevels one(int promise) {
        WildLevels x = Due.row(new WildLevels(), "a");
        x.wake(0, 1, 9);
        x.subscribe(0, promise, 0);
        return x;
    }

    private static void carryWrong() {
        WildLevels x = one(0);
        due.is("carry(0, 0, 0) of none", x.carry(0, 0, 0), -4);
        due.is("carry(0, 1, 2) of none", x.carry(0, 1, 2), -4);
        x.say(0, 0, 1, 0, 0);
        due.is("carry(-1, 0, 0)", x.carry(-1, 0, 0), -1);
        due.is("carry(6, 0, 0)", x.carry(6, 0, 0), -1);
        due.is("carry(0, -1, 0)", x.carry(0, -1, 0), -1);
        due.is("carry(0, 2, 0)", x.carry(0, 2, 0), -1);
        due.is("carry(0, 0, -1)", x.carry(0, 0, -1), -1);
        due.is("carry(0, 0, 3)", x.carry(0, 0, 3), -1);
        due.is("client(0, 6)", x.client(0, 6), 1);
        due.is("carry(1, 0, 0), no session", x.carry(1, 0, 0), -2);
        x.sleep(0, 0);
        due.is("carry(0, 0, 0), asleep", x.carry(0, 0, 0), -2);
    }

    private static void atMostOnce() {
        WildLevels x = one(2);
        x.say(0, 0, 5, 0, 0);
        x.say(0, 0, 6, 0, 0);
        due.is("carry, doubled", x.carry(0, 0, 2), 0);
        due.is("client(0, 6)", x.client(0, 6), 2);
        due.is("carry", x.carry(0, 0, 0), 0);
        due.is("carry, lost", x.carry(0, 0, 1), 0);
        due.is("client(0, 6)", x.client(0, 6), 0);
        due.is("client(0, 7), nothing comes up", x.client(0, 7), 0);
        due.is("client(0, 12)", x.client(0, 12), 2);
        due.is("rule(4)", x.rule(4), 2);
        due.is("took(0, 1, 1)", x.took(0, 1, 1), 5);
        due.is("took(0, 1, 2)", x.took(0, 1, 2), 0);
        due.is("rule(3), carried and lost is not LOST", x.rule(3), 0);
    }

    private static void atLeastOnce() {
        WildLevels x = one(1);
        x.say(0, 0, 5, 2, 0);
        due.is("flight(0, 0, 2)", x.flight(0, 0, 2), 1);
        due.is("carry, doubled", x.carry(0, 0, 2), 0);
        due.is("carry", x.carry(0, 0, 0), 0);
        due.is("client(0, 12), taken twice", x.client(0, 12), 2);
        due.is("client(0, 8), by 1 nothing is known", x.client(0, 8), 0);
        due.is("client(0, 7)", x.client(0, 7), 2);
        due.is("line(0, 1, 0, 0)", x.line(0, 1, 0, 0), 1);
        due.is("line(0, 1, 0, 1)", x.line(0, 1, 0, 1), 1);
        due.is("line(0, 1, 0, 2)", x.line(0, 1, 0, 2), -4);
        due.is("line(0, 1, 0, 3)", x.line(0, 1, 0, 3), -4);
        due.is("line(0, 1, 0, 4)", x.line(0, 1, 0, 4), -4);
        due.is("carry up, lost", x.carry(0, 1, 1), 1);
        due.is("client(0, 4)", x.client(0, 4), 1);
        due.is("carry up, doubled", x.carry(0, 1, 2), 1);
        due.is("client(0, 4), off", x.client(0, 4), 0);
        due.is("rule(5)", x.rule(5), 1);
        x.say(0, 0, 6, 1, 0);
        due.is("carry up, of one that is off", x.carry(0, 1, 0), 1);
        due.is("client(0, 4), the other stays", x.client(0, 4), 1);
        due.is("rule(5)", x.rule(5), 1);
    }

    private static void justOnce() {
        WildLevels x = one(2);
        x.say(0, 0, 5, 2, 0);
        due.is("carry, doubled", x.carry(0, 0, 2), 0);
        due.is("client(0, 8), known", x.client(0, 8), 1);
        due.is("carry, the second", x.carry(0, 0, 0), 0);
        due.is("client(0, 8)", x.client(0, 8), 1);
        due.is("client(0, 12), taken once", x.client(0, 12), 1);
        due.is("took(0, 0, 2)", x.took(0, 0, 2), 2);
        due.is("client(0, 7), HAD both times", x.client(0, 7), 2);
        due.is("line(0, 1, 1, 0)", x.line(0, 1, 1, 0), 2);
        due.is("line(0, 1, 1, 1)", x.line(0, 1, 1, 1), 1);
        due.is("carry HAD, lost", x.carry(0, 1, 1), 2);
        due.is("flight(0, 0, 4)", x.flight(0, 0, 4), 0);
        due.is("carry HAD", x.carry(0, 1, 0), 2);
        due.is("flight(0, 0, 4), freed", x.flight(0, 0, 4), 1);
        due.is("client(0, 4)", x.client(0, 4), 1);
        due.is("line(0, 0, 0, 0)", x.line(0, 0, 0, 0), 3);
        due.is("line(0, 0, 0, 1)", x.line(0, 0, 0, 1), 1);
        due.is("line(0, 0, 0, 2)", x.line(0, 0, 0, 2), -4);
        due.is("carry FREE", x.carry(0, 0, 2), 3);
        due.is("client(0, 8), not known any more", x.client(0, 8), 0);
        due.is("carry FREE, the second", x.carry(0, 0, 0), 3);
        due.is("client(0, 7)", x.client(0, 7), 2);
        due.is("line(0, 1, 0, 0)", x.line(0, 1, 0, 0), 4);
        due.is("carry DONE", x.carry(0, 1, 0), 4);
        due.is("client(0, 4), off", x.client(0, 4), 0);
        due.is("rule(5)", x.rule(5), 1);
        due.is("carry DONE, the second", x.carry(0, 1, 0), 4);
        due.is("rule(5), nothing", x.rule(5), 1);
        due.is("rule(4)", x.rule(4), 1);
    }

    /** It knows the number through a sleep, so what is sent again is not taken twice. */
    private static void justOnceThroughASleep() {
        WildLevels x = one(2);
        x.say(0, 0, 5, 2, 0);
        x.carry(0, 0, 0);
        x.sleep(0, 1);
        due.is("client(0, 8), asleep", x.client(0, 8), 1);
        x.wake(0, 0, 9);
        due.is("line(0, 0, 0, 0), OUT again", x.line(0, 0, 0, 0), 0);
        x.carry(0, 0, 0);
        due.is("client(0, 12)", x.client(0, 12), 1);
        x.carry(0, 1, 0);
        x.sleep(0, 0);
        x.wake(0, 0, 9);
        due.is("line(0, 0, 0, 0), FREE again", x.line(0, 0, 0, 0), 3);
        due.is("flight(0, 0, 4)", x.flight(0, 0, 4), 1);
        x.carry(0, 0, 0);
        x.carry(0, 1, 0);
        due.is("client(0, 4)", x.client(0, 4), 0);
    }

    private static void doubledHad() {
        WildLevels x = one(2);
        x.say(0, 0, 5, 2, 0);
        x.carry(0, 0, 0);
        due.is("carry HAD, doubled", x.carry(0, 1, 2), 2);
        due.is("carry HAD", x.carry(0, 1, 0), 2);
        due.is("client(0, 6), FREE each time", x.client(0, 6), 2);
        x.carry(0, 0, 0);
        x.carry(0, 1, 0);
        due.is("client(0, 4)", x.client(0, 4), 0);
        x.say(0, 0, 6, 2, 0);
        x.carry(0, 0, 0);
        due.is("carry DONE of the first again, the second is in flight", x.carry(0, 1, 0), 4);
        due.is("client(0, 4), nothing", x.client(0, 4), 1);
        due.is("line(0, 0, 0, 1)", x.line(0, 0, 0, 1), 2);
    }

    private static void queueGoesOn() {
        WildLevels x = one(2);
        for (int n = 1; n <= 6; n++) {
            x.say(0, 0, n, n % 2 + 1, 0);
        }
        due.is("client(0, 5)", x.client(0, 5), 2);
        due.is("flight(0, 4, 0), in the queue", x.flight(0, 4, 0), 0);
        due.is("flight(0, 4, 3)", x.flight(0, 4, 3), 5);
        x.carry(0, 0, 1);
        x.carry(0, 0, 0);
        due.is("carry GOT of the second", x.carry(0, 1, 0), 1);
        due.is("client(0, 4)", x.client(0, 4), 4);
        due.is("client(0, 5)", x.client(0, 5), 1);
        int[][] flight = {{1, 0, 2, 1}, {3, 2, 2, 3}, {4, 3, 1, 4}, {5, 4, 2, 5}, {0, 5, 1, 6}};
        for (int i = 0; i < 5; i++) {
            for (int what = 0; what < 4; what++) {
                due.is("flight(0, " + i + ", " + what + ")", x.flight(0, i, what), flight[i][what]);
            }
        }
        due.is("line(0, 0, 2, 1), the new one comes behind", x.line(0, 0, 2, 1), 5);
        x.say(0, 0, 9, 0, 0);
        due.is("line(0, 0, 3, 4), by 0 it does not wait", x.line(0, 0, 3, 4), 9);
    }

    private static void fullLines() {
        WildLevels x = one(1);
        for (int n = 1; n <= 15; n++) {
            x.say(0, 0, 50, 0, 0);
        }
        x.say(0, 0, 1, 1, 0);
        due.is("client(0, 6)", x.client(0, 6), 16);
        x.say(0, 0, 2, 1, 0);
        due.is("client(0, 6), lost on it", x.client(0, 6), 16);
        due.is("client(0, 4), in flight all the same", x.client(0, 4), 2);
        due.is("rule(3)", x.rule(3), 0);
        for (int n = 1; n <= 15; n++) {
            x.carry(0, 0, 0);
        }
        for (int n = 1; n <= 17; n++) {
            due.is("carry, doubled", x.carry(0, 0, 2), 0);
        }
        due.is("client(0, 7), a full line up", x.client(0, 7), 16);
        due.is("client(0, 12), taken all the same", x.client(0, 12), 32);
        due.is("took(0, 29, 1)", x.took(0, 29, 1), 1);
        due.is("took(0, 30, 1)", x.took(0, 30, 1), -4);
        due.is("took(0, 12, 1)", x.took(0, 12, 1), 50);
        due.is("took(0, 13, 1)", x.took(0, 13, 1), 1);
    }

    private static void again() {
        WildLevels x = one(2);
        due.is("again(-1)", x.again(-1), -1);
        due.is("again(6)", x.again(6), -1);
        due.is("again(1), no session", x.again(1), -2);
        due.is("again(0) of none", x.again(0), 0);
        x.say(0, 0, 1, 2, 0);
        x.say(0, 0, 2, 1, 0);
        x.say(0, 0, 3, 0, 0);
        x.carry(0, 0, 0);
        x.carry(0, 1, 0);
        due.is("client(0, 6)", x.client(0, 6), 3);
        due.is("again(0)", x.again(0), 2);
        due.is("client(0, 6)", x.client(0, 6), 5);
        due.is("line(0, 0, 3, 0), FREE of the first", x.line(0, 0, 3, 0), 3);
        due.is("line(0, 0, 3, 1)", x.line(0, 0, 3, 1), 1);
        due.is("line(0, 0, 4, 0), OUT of the second", x.line(0, 0, 4, 0), 0);
        due.is("line(0, 0, 4, 1)", x.line(0, 0, 4, 1), 2);
        due.is("line(0, 0, 4, 4)", x.line(0, 0, 4, 4), 2);
        due.is("rule(2), it did not go again", x.rule(2), 3);
        x.sleep(0, 0);
        due.is("again(0), asleep", x.again(0), -2);
        WildLevels y = one(1);
        for (int n = 1; n <= 6; n++) {
            y.say(0, 0, n, 1, 0);
        }
        due.is("again(0), not the queue", y.again(0), 4);
        y.again(0);
        y.again(0);
        due.is("again(0), a full line", y.again(0), 4);
        due.is("client(0, 6)", y.client(0, 6), 16);
        WildLevels z = Due.told("kept a 5 1;");
        z.wake(0, 1, 9);
        Due.row(z, "a").subscribe(0, 1, 0);
        z.carry(0, 0, 1);
        z.again(0);
        z.carry(0, 0, 0);
        due.is("took(0, 0, 3), as kept when sent again, too", z.took(0, 0, 3), 1);
    }

    private static void tick() {
        WildLevels x = new WildLevels();
        due.is("tick(0)", x.tick(0), -1);
        due.is("tick(-1)", x.tick(-1), -1);
        due.is("tick(51)", x.tick(51), -1);
        due.is("rule(0)", x.rule(0), 0);
        due.is("tick(1)", x.tick(1), 0);
        due.is("rule(0)", x.rule(0), 1);
        due.is("tick(50)", x.tick(50), 0);
        due.is("rule(0)", x.rule(0), 51);
        for (int c = 0; c < 4; c++) {
            x.wake(c, 1, 9);
            Due.row(x, "a").will(c, 1, 0, 0, c + 1);
            x.sleep(c, 1);
        }
        due.is("tick(3), three wills", x.tick(3), 3);
        due.is("tick(3), one more", x.tick(3), 1);
        due.is("rule(1)", x.rule(1), 4);
    }

    /** Client by client: a will of a lesser one still finds a session that ends in the same tick. */
    private static void ticksByClients() {
        WildLevels x = Due.row(new WildLevels(), "a");
        for (int c = 0; c < 3; c++) {
            x.wake(c, 1, 2);
            x.subscribe(c, 0, 0);
        }
        x.will(1, 7, 1, 0, 2);
        for (int c = 0; c < 3; c++) {
            x.sleep(c, 1);
        }
        due.is("tick(2)", x.tick(2), 1);
        due.is("rule(2), to itself and to the one behind it", x.rule(2), 2);
        due.is("rule(3)", x.rule(3), 2);
        for (int c = 0; c < 3; c++) {
            due.is("client(" + c + ", 0)", x.client(c, 0), 0);
        }
    }
}
