/** The boundary cases of sessions, wills and ticks: promises 1, 8 to 10 and 17. */
final class EdgesOfSessions {
    private final Edges e;

    private EdgesOfSessions(Edges e) {
        this.e = e;
    }

    static void play(Edges e) {
        EdgesOfSessions all = new EdgesOfSessions(e);
        all.newObject();
        all.clients();
        all.wake();
        all.wakeAnswers();
        all.wakeTerms();
        all.wakeSendsAgain();
        all.sleep();
        all.sleepTerms();
        all.willBounds();
        all.willAnswers();
        all.willRefused();
        all.willIsDue();
        all.ends();
        all.tick();
        all.tickTerms();
    }

    private void newObject() {
        e.edge(1, "No SESSIONS, nothing KEPT.");
        Run run = e.run("kept(0,0)=NONE kept(0,7)=NONE fault()=0 back(0)=STATE back(1)=STATE row:a had(1)=NONE had(3)=NONE top()");
        for (int what = 0; what <= 10; what++) {
            run.then("rule(" + what + ")=0");
        }
        for (int c = 0; c <= 5; c++) {
            run.then("client(C,0)=0 client(C,1)=NONE client(C,10)=NONE client(C,11)=NONE client(C,12)=0".replace('C', (char) ('0' + c)));
            run.then("subscription(C,0,0)=NONE line(C,0,0,0)=NONE line(C,1,0,0)=NONE flight(C,0,0)=NONE took(C,0,0)=NONE"
                .replace('C', (char) ('0' + c)));
            run.then("sleep(C,0)=STATE again(C)=STATE carry(C,0,0)=STATE".replace('C', (char) ('0' + c)));
        }
        run.then("tick(50)=0 rule(0)=50");
    }

    private void clients() {
        e.edge(8, "CLIENTS 0 to 5; each has a SESSION or not (none at first), AWAKE or ASLEEP.");
        Run run = e.run("row:a");
        for (int c = 0; c <= 5; c++) {
            run.then("client(C,0)=0 wake(C,1,9)=0 client(C,0)=1 sleep(C,0)=0 client(C,0)=2 wake(C,0,9)=1 client(C,0)=1"
                .replace('C', (char) ('0' + c)));
        }
        String[] calls = {"wake(C,0,0)", "sleep(C,0)", "will(C,1,0,0,0)", "subscribe(C,0,0)", "leave(C,0)", "alias(C,1)", "say(C,0,1,0,0)",
            "carry(C,0,0)", "again(C)", "client(C,0)", "subscription(C,0,0)", "line(C,0,0,0)", "flight(C,0,0)", "took(C,0,0)"};
        for (String call : calls) {
            for (String c : new String[] {"-1", "6", "MIN", "MAX"}) {
                e.run("row:a wake(0,1,9) wake(5,1,9) " + call.replace("C", c) + "=BAD");
            }
            for (String c : new String[] {"0", "5"}) {
                int got = e.run("row:a wake(0,1,9) wake(5,1,9)").ask(call.replace("C", c));
                e.is(call.replace("C", c) + " is not BAD", got == -1 ? 1 : 0, 0);
            }
        }
    }

    private void wake() {
        e.edge(8, "With CLEAN (clean 1, 0) and a LIFE (0 to 99) a CLIENT wakes:");
        e.run("wake(0,-1,5)=BAD wake(0,2,5)=BAD wake(0,MIN,5)=BAD wake(0,MAX,5)=BAD client(0,0)=0 wake(0,0,5)=0 wake(1,1,5)=0");
        e.run("wake(0,0,-1)=BAD wake(0,0,100)=BAD wake(0,0,MIN)=BAD wake(0,0,MAX)=BAD client(0,0)=0 wake(0,0,0)=0 client(0,1)=0"
            + " wake(1,0,99)=0 client(1,1)=99 client(0,0)=1 client(1,0)=1");
        e.run("wake(0,1,0)=0 sleep(0,0) client(0,0)=0");
        e.run("wake(0,1,1)=0 sleep(0,0) client(0,0)=2 client(0,2)=1 tick(1) client(0,0)=0");
        e.run("wake(0,1,99)=0 sleep(0,0) client(0,2)=99 tick(50) tick(48) client(0,0)=2 tick(1) client(0,0)=0");
        e.edge(8, "BAD; STATE: it is AWAKE.");
        e.run("wake(0,0,5)=0 wake(0,0,7)=STATE wake(0,1,7)=STATE client(0,1)=5 wake(0,2,7)=BAD wake(0,0,100)=BAD wake(1,0,7)=0");
        e.run("wake(0,0,5) row:a subscribe(0,0,0) alias(0,1) will(0,1,0,0,0) wake(0,1,7)=STATE client(0,3)=1 client(0,9)=1 client(0,10)=1");
        e.run("wake(0,0,5) sleep(0,0) wake(0,0,7)=1 wake(0,0,8)=STATE client(0,1)=7");
    }

    private void wakeAnswers() {
        e.edge(8, "whether it goes on with a SESSION (1, 0).");
        e.run("wake(0,0,5)=0");
        e.run("wake(0,1,5)=0");
        e.run("wake(0,1,5) sleep(0,0) wake(0,0,5)=1 sleep(0,1) wake(0,0,5)=1 sleep(0,0) wake(0,1,5)=0");
        e.run("wake(0,1,5) sleep(0,0) tick(4) wake(0,0,5)=1");
        e.run("wake(0,1,5) sleep(0,0) tick(5) wake(0,0,5)=0");
        e.run("wake(0,1,0) sleep(0,0) wake(0,0,5)=0");
        e.run("told:sub0_a_0_0; wake(0,0,5)=1 wake(1,0,5)=0");
        e.run("told:sub0_a_0_0; wake(0,1,5)=0 client(0,3)=0");
    }

    private void wakeTerms() {
        e.edge(8, "A CLIENT wakes: with CLEAN, or is there no SESSION, a new one (no SUBSCRIPTIONS, nothing else), else that one;");
        String used = "wake(0,1,9) row:a subscribe(0,2,0) subscribe(0,2,1) alias(0,1) alias(0,4) 6*say(0,0,5,2,0) carry(0,0,0)"
            + " will(0,1,0,0,0) client(0,3)=2 client(0,4)=4 client(0,5)=8 client(0,8)=1 client(0,9)=2 client(0,10)=1 sleep(0,0) ";
        e.run(used + "wake(0,0,7)=1 client(0,3)=2 client(0,4)=4 client(0,5)=8 client(0,8)=1 client(0,9)=2 say(0,4,5,0,0)=2 had(1)=0");
        e.run(used + "wake(0,1,7)=0 client(0,3)=0 client(0,4)=0 client(0,5)=0 client(0,6)=0 client(0,7)=0 client(0,8)=0 client(0,9)=0"
            + " client(0,10)=0 say(0,1,5,0,0)=STATE say(0,4,5,0,0)=STATE had(1)=NONE rule(7)=0 client(0,12)=1 took(0,0,1)=5");
        e.run(used + "tick(9) client(0,0)=0 wake(0,0,7)=0 client(0,3)=0 client(0,4)=0 client(0,5)=0 client(0,8)=0 client(0,9)=0");
        e.run(used + "wake(0,1,7) subscribe(0,2,0) say(0,0,5,2,0)=1 flight(0,0,0)=1 carry(0,0,0) client(0,12)=2 client(0,8)=1");
        e.run(used + "wake(0,0,7) 4*carry(0,0,0) carry(0,1,0) client(0,12)=4");
        e.edge(8, "LINES are empty, LIFE as told, no WILL (nor is one due any more);");
        e.run("wake(0,1,9) row:a subscribe(0,0,0) subscribe(0,1,1) say(0,0,1,1,0) carry(0,0,0) carry(0,0,0) client(0,7)=1 say(0,0,1,0,0)"
            + " client(0,6)=2 sleep(0,0) wake(0,0,0) client(0,7)=0 client(0,6)=1 line(0,0,0,1)=1 client(0,1)=0");
        e.run("wake(0,1,9) sleep(0,0) wake(0,0,99)=1 client(0,1)=99 sleep(0,0) client(0,2)=99");
        for (int clean = 0; clean <= 1; clean++) {
            e.run("row:a wake(0,1,9) will(0,1,0,0,3) sleep(0,1) client(0,11)=3 wake(0,CLEAN,9) client(0,11)=NONE client(0,10)=0 tick(9)=0 sleep(0,1)=0"
                .replace("CLEAN", "" + clean));
            e.run("row:a wake(0,1,9) will(0,1,0,0,3) sleep(0,1) tick(2)=0 wake(0,CLEAN,9) tick(1)=0 rule(1)=0".replace("CLEAN", "" + clean));
            e.run("row:a wake(0,1,9) will(0,1,0,0,3) sleep(0,1) tick(3)=1 wake(0,CLEAN,9) rule(1)=1".replace("CLEAN", "" + clean));
        }
    }

    private void wakeSendsAgain() {
        e.edge(8, "all IN FLIGHT are SENT AGAIN, then the QUEUE goes on.");
        String ready = "wake(1,1,9) row:a wake(0,1,9) subscribe(0,2,0) ";
        e.run(ready + "sleep(0,0) wake(0,0,9) client(0,6)=0 client(0,4)=0");
        e.run(ready + "sleep(0,0) 3*say(1,0,1,1,0) wake(0,0,9) client(0,4)=3 client(0,5)=0 client(0,6)=3 line(0,0,0,1)=1 line(0,0,2,1)=3");
        e.run(ready + "sleep(0,0) 4*say(1,0,1,1,0) client(0,5)=4 wake(0,0,9) client(0,4)=4 client(0,5)=0 client(0,6)=4");
        e.run(ready + "sleep(0,0) 5*say(1,0,1,1,0) client(0,5)=5 wake(0,0,9) client(0,4)=4 client(0,5)=1 client(0,6)=4");
        e.run(ready + "sleep(0,0) 12*say(1,0,1,1,0) wake(0,0,9) client(0,4)=4 client(0,5)=8 client(0,6)=4");
        e.run(ready + "3*say(1,0,1,2,0) sleep(0,0) 2*say(1,0,2,1,0) wake(0,0,9) client(0,4)=4 client(0,5)=1 client(0,6)=4"
            + " line(0,0,2,4)=1 line(0,0,3,4)=2 line(0,0,3,1)=4 line(0,0,0,1)=1");
        e.run(ready + "4*say(1,0,1,2,0) sleep(0,0) 12*say(1,0,2,1,0) wake(0,0,9) client(0,4)=4 client(0,5)=12 client(0,6)=4 line(0,0,3,1)=4");
        e.run(ready + "2*say(1,0,1,2,0) carry(0,0,0) carry(0,1,0) sleep(0,1) wake(0,0,9) client(0,6)=2 line(0,0,0,0)=3 line(0,0,0,1)=1"
            + " line(0,0,1,0)=0 line(0,0,1,1)=2");
    }

    private void sleep() {
        e.edge(9, "A CLIENT sleeps, orderly (how 0) or broken (1):");
        String ready = "row:a wake(0,1,9) will(0,1,0,0,0) ";
        e.run(ready + "sleep(0,-1)=BAD sleep(0,2)=BAD sleep(0,MIN)=BAD sleep(0,MAX)=BAD client(0,0)=1 sleep(0,0)=0 client(0,0)=2 rule(1)=0");
        e.run(ready + "sleep(0,1)=0 client(0,0)=2 rule(1)=1");
        e.edge(9, "how many times its WILL GOES now (0: also if there is none, or it is not now).");
        e.run("row:a wake(0,1,9) wake(1,1,9) subscribe(1,1,0) sleep(0,1)=0 rule(1)=0");
        e.run("row:a wake(0,1,9) wake(1,1,9) subscribe(1,1,0) will(0,1,0,0,1) sleep(0,1)=0 rule(1)=0 client(0,11)=1 tick(1)=1");
        e.run("row:a wake(0,1,9) wake(1,1,9) subscribe(1,1,0) will(0,1,0,0,0) sleep(0,1)=1 rule(1)=1");
        e.run("row:a wake(0,1,9) wake(1,1,9) subscribe(1,1,0) will(0,1,0,0,0) sleep(0,0)=0 rule(1)=0");
        e.run("row:a wake(0,1,9) wake(1,1,9) subscribe(1,1,0) subscribe(1,1,1) subscribe(0,1,0) will(0,1,0,0,0) sleep(0,1)=3");
        e.run("row:a wake(0,1,9) will(0,1,0,0,0) sleep(0,1)=0 rule(1)=1");
        e.run("told:sub1_a_0_0;sub2_a_0_0;sub3_a_0_0;sub4_a_0_0;sub5_a_0_0;sub0_a_0_0;sub0_a_0_1;sub0_a_0_2;sub0_a_0_3;"
            + " wake(0,0,9) row:a will(0,1,0,0,0) sleep(0,1)=9 rule(2)=9 rule(3)=9");
        e.edge(9, "BAD; STATE: it is not AWAKE.");
        e.run("sleep(0,0)=STATE sleep(0,1)=STATE sleep(0,2)=BAD sleep(6,0)=BAD client(0,0)=0");
        e.run("wake(0,1,5) sleep(0,0)=0 tick(2) sleep(0,0)=STATE sleep(0,1)=STATE sleep(0,-1)=BAD client(0,2)=5 wake(0,0,5)=1 sleep(0,0)=0 client(0,2)=7");
        e.run("wake(0,1,0) sleep(0,0)=0 sleep(0,0)=STATE");
    }

    private void sleepTerms() {
        e.edge(9, "It sleeps: it is ASLEEP, LINES are empty; orderly: no WILL;");
        e.run("wake(0,1,9) row:a subscribe(0,1,0) 2*say(0,0,1,1,0) carry(0,0,0) client(0,6)=1 client(0,7)=1 sleep(0,0) client(0,0)=2"
            + " client(0,6)=0 client(0,7)=0 line(0,0,0,0)=NONE line(0,1,0,0)=NONE client(0,4)=2 client(0,12)=1");
        e.run("wake(0,1,9) row:a subscribe(0,1,0) say(0,0,1,1,0) carry(0,0,0) sleep(0,1) client(0,6)=0 client(0,7)=0");
        e.run("wake(0,1,9) row:a will(0,1,0,1,3) sleep(0,0) client(0,10)=0 client(0,11)=NONE tick(9)=0 rule(1)=0 rule(6)=0");
        e.edge(9, "broken: the WILL is due at CLOCK and the lesser of its DELAY and LIFE (it is no WILL then; is that CLOCK, it is SAID now);");
        int[][] dues = {{9, 8, 8}, {8, 9, 8}, {8, 8, 8}, {1, 99, 1}, {50, 99, 50}, {50, 50, 50}, {50, 49, 49}, {50, 1, 1}, {1, 1, 1}};
        for (int[] d : dues) {
            e.run("tick(5) row:a wake(0,1," + d[1] + ") will(0,7,0,1," + d[0] + ") client(0,10)=1 client(0,11)=NONE sleep(0,1)=0"
                + " client(0,10)=0 client(0,11)=" + (5 + d[2]) + " rule(1)=0");
        }
        for (int[] d : new int[][] {{0, 9}, {9, 0}, {0, 0}, {50, 0}, {0, 99}}) {
            e.run("tick(5) row:a wake(1,1,0) subscribe(1,0,0) wake(0,1," + d[1] + ") will(0,7,0,1," + d[0] + ") sleep(0,1)=1"
                + " client(0,11)=NONE rule(1)=1 kept(0,1)=7 tick(50)=0 rule(1)=1");
        }
        e.edge(9, "then, by LIFE 0, the SESSION ends now, else at CLOCK and LIFE, if it is ASLEEP still.");
        e.run("tick(3) wake(0,1,0) row:a subscribe(0,1,1) sleep(0,0)=0 client(0,0)=0 client(0,2)=NONE rule(7)=0");
        e.run("tick(3) wake(0,1,1) row:a subscribe(0,1,1) sleep(0,0)=0 client(0,0)=2 client(0,2)=4 rule(7)=1 tick(1) client(0,0)=0 rule(7)=0");
        e.run("tick(3) wake(0,1,99) sleep(0,1)=0 client(0,2)=102 tick(50) tick(48) client(0,0)=2 tick(1) client(0,0)=0");
        e.run("wake(0,1,2) sleep(0,0) tick(1) wake(0,0,2)=1 tick(1) client(0,0)=1 tick(50) client(0,0)=1 client(0,2)=NONE");
        e.run("wake(0,1,2) sleep(0,0) tick(1) wake(0,0,2) sleep(0,0) client(0,2)=3 tick(1) client(0,0)=2 tick(1) client(0,0)=0");
        e.run("wake(0,1,0) row:a subscribe(0,1,0) will(0,1,1,0,0) sleep(0,1)=1 client(0,0)=0 rule(2)=1 rule(3)=0 wake(0,0,5)=0 client(0,5)=0");
    }

    private void willBounds() {
        e.edge(10, "A WILL of a CLIENT, with THE ROW as TOPIC, a VALUE (0 to 99), a PROMISE, KEEP (1, 0), a DELAY (0 to 50):");
        String ready = "row:a/b wake(0,1,99) ";
        String[][] bounds = {{"V,0,0,0", "99"}, {"1,V,0,0", "2"}, {"1,0,V,0", "1"}, {"1,0,0,V", "50"}};
        for (String[] bound : bounds) {
            int above = Integer.parseInt(bound[1]) + 1;
            for (String wrong : new String[] {"-1", "" + above, "MIN", "MAX"}) {
                e.run(ready + "will(0," + bound[0].replace("V", wrong) + ")=BAD client(0,10)=0");
            }
            for (String right : new String[] {"0", bound[1]}) {
                e.run(ready + "will(0," + bound[0].replace("V", right) + ")=0 client(0,10)=1");
            }
        }
        e.run("told:sub1_a/b_2_0;kept_a/b_9_0; wake(1,0,9) " + ready + "will(0,0,2,1,0) sleep(0,1)=1 line(1,0,0,4)=0 line(1,0,0,3)=2 rule(6)=0");
        e.run("told:sub1_a/b_2_0; wake(1,0,9) " + ready + "will(0,99,2,1,0) row:c sleep(0,1)=1 line(1,0,0,4)=99 rule(6)=1 kept(0,0)=2 kept(0,1)=99 kept(0,2)=2");
        e.run("told:sub1_a/b_2_0; wake(1,0,9) " + ready + "will(0,99,0,0,0) sleep(0,1)=1 line(1,0,0,3)=0 rule(6)=0");
        e.run(ready + "will(0,1,0,0,50) sleep(0,1)=0 client(0,11)=50 tick(49)=0 tick(1)=1");
        e.run(ready + "will(0,1,0,0,1) sleep(0,1)=0 client(0,11)=1 tick(1)=1");
        e.run("row:a/b/c/d wake(0,1,9) will(0,1,0,1,0)=0 sleep(0,1)=0 kept(0,7)=4");
    }

    private void willAnswers() {
        e.edge(10, "whether there was one (1, 0).");
        e.run("row:a wake(0,1,9) will(0,1,0,0,5)=0 will(0,2,0,1,0)=1 will(0,3,0,1,0)=1 sleep(0,1) rule(1)=1 kept(0,1)=3");
        e.run("row:a wake(0,1,9) will(0,1,0,0,5)=0 sleep(0,0) wake(0,0,9) will(0,1,0,0,5)=0 sleep(0,1) wake(0,0,9) will(0,1,0,0,5)=0");
        e.run("row:a wake(0,1,9) wake(1,1,9) will(0,1,0,0,5)=0 will(1,1,0,0,5)=0 will(1,1,0,0,5)=1");
    }

    private void willRefused() {
        e.edge(10, "BAD; STATE: it is not AWAKE, THE ROW is no TOPIC.");
        e.run("row:a will(0,1,0,0,0)=STATE will(0,100,0,0,0)=BAD wake(0,1,9) sleep(0,0) will(0,1,0,0,0)=STATE wake(0,0,9) will(0,1,0,0,0)=0");
        for (String row : new String[] {"", "+", "#", "a/+", "a/#", "a/b/c/#", "+/b/c/d"}) {
            e.run("wake(0,1,9) row:" + row + " will(0,1,0,0,0)=STATE will(0,1,0,0,51)=BAD client(0,10)=0");
        }
        e.run("wake(0,1,9) row:a will(0,5,0,1,3)=0 row:+ will(0,6,0,1,0)=STATE row:b will(0,6,3,1,0)=BAD sleep(0,1)=0 client(0,11)=3 tick(3)=1"
            + " kept(0,1)=5 kept(0,4)=1");
    }

    private void willIsDue() {
        e.edge(19, "11 the CLOCK when a WILL is due (NONE),");
        e.run("client(0,11)=NONE row:a wake(0,1,9) client(0,11)=NONE will(0,1,0,0,4) client(0,11)=NONE tick(2) sleep(0,1) client(0,11)=6"
            + " tick(3) client(0,11)=6 tick(1)=1 client(0,11)=NONE");
        e.run("row:a wake(0,1,4) will(0,1,0,0,4) sleep(0,1) tick(3)=0 client(0,11)=4 client(0,0)=2 tick(1)=1 client(0,11)=NONE client(0,0)=0");
    }

    private void ends() {
        e.edge(17, "An end: no SESSION; what is due stays due.");
        e.run("row:a wake(0,1,2) subscribe(0,1,0) alias(0,1) sleep(0,1) tick(2) client(0,0)=0 client(0,3)=NONE subscription(0,0,0)=NONE"
            + " flight(0,0,0)=NONE wake(0,0,9)=0 client(0,9)=0");
        e.run("row:a wake(0,1,2) will(0,5,0,1,50) sleep(0,1) client(0,11)=2 tick(1) client(0,11)=2 tick(1)=1 client(0,0)=0 rule(1)=1 kept(0,1)=5");
        e.run("row:a wake(1,1,1) subscribe(1,1,0) wake(0,1,3) will(0,5,1,1,3) sleep(0,1) sleep(1,0) tick(1)=0 client(1,0)=0 client(0,11)=3 tick(2)=1 rule(2)=0");
    }

    private void tick() {
        e.edge(17, "n (1 to 50) TICKS: how many WILLS were SAID.");
        e.run("tick(0)=BAD tick(51)=BAD tick(-1)=BAD tick(MIN)=BAD tick(MAX)=BAD rule(0)=0 tick(1)=0 rule(0)=1 tick(50)=0 rule(0)=51");
        StringBuilder six = new StringBuilder("row:a ");
        for (int c = 0; c <= 5; c++) {
            six.append("wake(C,1,50) will(C,1,0,0,D) sleep(C,1)=0 ".replace("C", "" + c).replace("D", "" + (c < 3 ? 50 : c)));
        }
        e.run(six + "tick(2)=0 tick(1)=1 tick(2)=2 tick(44)=0 tick(1)=3 rule(1)=6 tick(50)=0");
        e.run(six + "tick(50)=6");
        e.run(six + "tick(49)=3 tick(50)=3");
        e.edge(17, "BAD.");
        e.run("row:a wake(0,1,9) will(0,1,0,0,1) sleep(0,1) tick(0)=BAD tick(51)=BAD rule(0)=0 rule(1)=0 client(0,11)=1 tick(1)=1");
    }

    private void tickTerms() {
        e.edge(17, "A TICK: CLOCK is one more; by CLIENTS, by number: is its WILL due at CLOCK, it is SAID; ends its SESSION at CLOCK, it ends.");
        e.run("rule(0)=0 tick(1) rule(0)=1 tick(1) rule(0)=2 tick(50) rule(0)=52");
        // Its own session is there still; that of a lesser client has ended, that of a greater one has not.
        e.run("row:a wake(0,1,2) wake(1,1,2) wake(2,1,2) subscribe(0,0,0) subscribe(1,0,0) subscribe(2,0,0) will(1,7,1,0,2)"
            + " sleep(0,0) sleep(1,1) sleep(2,0) tick(1)=0 rule(2)=0 tick(1)=1 rule(2)=2 client(0,0)=0 client(1,0)=0 client(2,0)=0");
        e.run("row:a wake(0,1,2) wake(1,1,2) subscribe(0,0,0) will(0,7,1,0,2) will(1,8,1,0,2) sleep(0,1) sleep(1,1) tick(2)=2 rule(2)=1");
        // Two wills of one tick are said by number: the greater client's is kept behind, and has the greater number.
        e.run("row:a wake(0,1,9) wake(5,1,9) will(5,55,0,1,1) row:b will(0,44,0,1,1) sleep(5,1) sleep(0,1) tick(1)=2 kept(0,1)=44 kept(0,3)=0"
            + " kept(1,1)=55 kept(1,3)=1");
        // One that has ended in this tick is no member of a share any more.
        e.run("row:a wake(0,1,1) wake(1,1,9) wake(2,1,9) subscribe(0,1,1) subscribe(2,1,1) will(1,7,1,0,1) sleep(0,0) sleep(1,1) sleep(2,0)"
            + " tick(1)=1 had(1)=2 client(2,5)=1");
    }
}
