/** The boundary cases of the answers themselves, of every promise: the first that fits, nothing changes, 512 calls. */
final class EdgesOfAnswers {
    /** Clients 0 and 4 are awake, 1 is asleep, 2 has no session, 3 has six subscriptions; a text is half fed. */
    private static final String BUSY = "told:sub1_a/b_1_0;sub3_a_0_0;sub3_b_0_0;sub3_c_0_0;sub3_a_0_1;sub3_b_0_1;sub3_c_0_1;kept_a_5_1; wake(0,1,9) wake(3,0,9)"
        + " wake(4,1,9) row:a/b subscribe(0,2,0) subscribe(0,1,2) will(0,5,1,1,3) alias(0,1) 2*say(0,0,7,2,1) carry(0,0,0) carry(0,1,0) will(4,6,0,0,3)"
        + " sleep(4,1) wake(4,1,9) say(4,0,8,0,0) keep(1) tick(2) type:kept_b_7_2; type:~ text() type:kept_c_8_1; ";

    private final Edges e;

    private EdgesOfAnswers(Edges e) {
        this.e = e;
    }

    static void play(Edges e) {
        EdgesOfAnswers all = new EdgesOfAnswers(e);
        all.constants();
        all.badFirst();
        all.stateFirst();
        all.theTape();
        all.calls512();
        all.plainWords();
    }

    private void constants() {
        e.edge(1, "public static final int BAD = -1, STATE = -2, FULL = -3, NONE = -4;");
        e.is("BAD", WildLevels.BAD, -1);
        e.is("STATE", WildLevels.STATE, -2);
        e.is("FULL", WildLevels.FULL, -3);
        e.is("NONE", WildLevels.NONE, -4);
    }

    /** Each of these calls is refused, and all that can be seen is as it would be without it. */
    private void refused(String ready, String... calls) {
        int most = 0;
        for (String call : calls) {
            Run with = e.run(ready + " " + call);
            Run without = e.run(ready);
            e.same("behind " + call, Look.all(with), Look.all(without));
            most = Math.max(most, with.calls());
        }
        e.is("calls of a run are 512 at most", most <= 512 ? 1 : 0, 1);
    }

    private void badFirst() {
        e.edge(14, "Answers: BAD -1 (a number is not as told, there is no such CLIENT, SUBSCRIPTION, ALIAS, IMAGE),");
        refused(BUSY, "feed(-1)=BAD", "feed(128)=BAD", "end(-1)=BAD", "end(12)=BAD", "level(0)=BAD", "level(29)=BAD", "wake(6,0,0)=BAD", "wake(2,2,0)=BAD",
            "wake(2,0,100)=BAD", "wake(1,-1,9)=BAD", "sleep(6,0)=BAD", "sleep(0,2)=BAD", "will(0,100,0,0,0)=BAD", "will(0,1,3,0,0)=BAD",
            "will(0,1,0,2,0)=BAD", "will(0,1,0,0,51)=BAD", "subscribe(0,3,0)=BAD", "subscribe(0,0,4)=BAD", "leave(0,4)=BAD", "alias(0,0)=BAD", "alias(0,5)=BAD",
            "say(0,5,1,0,0)=BAD", "say(0,0,100,0,1)=BAD", "say(0,0,1,3,1)=BAD", "say(0,0,1,0,2)=BAD", "carry(0,2,0)=BAD", "carry(0,0,3)=BAD", "again(6)=BAD",
            "tick(0)=BAD", "tick(51)=BAD", "keep(-1)=BAD", "keep(2)=BAD", "back(-1)=BAD", "back(2)=BAD");
        e.edge(14, "the first that fits;");
        e.run("200*feed(32) feed(128)=BAD feed(32)=FULL");
        e.run("row:a/b/c/# level(29)=BAD level(1)=STATE row:a/b/c/d level(0)=BAD level(28)=FULL");
        e.run("wake(0,1,9) wake(0,2,9)=BAD wake(0,0,-1)=BAD wake(0,1,9)=STATE");
        e.run("sleep(0,2)=BAD sleep(0,1)=STATE will(0,1,0,0,51)=BAD will(0,1,0,0,50)=STATE alias(0,5)=BAD alias(0,4)=STATE say(0,5,1,0,0)=BAD say(0,4,1,0,0)=STATE");
        e.run(BUSY + "row:d subscribe(3,3,0)=BAD subscribe(3,2,4)=BAD subscribe(3,2,3)=FULL top() subscribe(3,2,3)=STATE row:d sleep(3,0) subscribe(3,2,3)=STATE"
            + " subscribe(3,-1,3)=BAD");
        e.run("leave(0,4)=BAD leave(0,3)=STATE wake(0,1,9) leave(0,4)=BAD leave(0,3)=NONE");
        e.run("carry(0,2,0)=BAD carry(0,0,3)=BAD carry(0,1,2)=STATE wake(0,1,9) carry(0,2,0)=BAD carry(0,0,3)=BAD carry(0,1,2)=NONE");
        e.run("back(2)=BAD back(1)=STATE subscription(0,0,8)=BAD subscription(0,0,7)=NONE kept(0,8)=BAD kept(0,7)=NONE had(4)=BAD had(3)=NONE line(0,0,0,5)=BAD"
            + " line(0,0,0,4)=NONE flight(0,0,5)=BAD flight(0,0,4)=NONE took(0,0,4)=BAD took(0,0,3)=NONE client(0,13)=BAD client(0,10)=NONE again(6)=BAD again(5)=STATE");
    }

    private void stateFirst() {
        e.edge(14, "STATE -2 (as told), FULL -3, NONE -4 (there is none),");
        refused(BUSY, "wake(0,1,9)=STATE", "wake(0,0,5)=STATE", "sleep(1,0)=STATE", "sleep(2,1)=STATE", "will(1,1,0,0,0)=STATE", "subscribe(1,0,0)=STATE",
            "subscribe(2,0,3)=STATE", "leave(1,0)=STATE", "leave(4,0)=NONE", "leave(0,3)=NONE", "alias(1,1)=STATE", "alias(2,4)=STATE", "say(1,0,1,0,1)=STATE",
            "say(0,2,1,0,1)=STATE", "carry(1,0,0)=STATE", "carry(2,1,2)=STATE", "carry(3,0,0)=NONE", "carry(3,1,2)=NONE", "again(1)=STATE", "again(2)=STATE",
            "back(0)=STATE", "subscribe(3,2,0)=FULL", "subscribe(3,2,2)=FULL");
        refused(BUSY + "row:a/+", "will(0,1,0,0,0)=STATE", "alias(0,1)=STATE", "alias(0,2)=STATE", "say(0,0,1,0,1)=STATE", "leave(0,0)=NONE");
        refused(BUSY + "row:a/#", "level(1)=STATE", "level(28)=STATE", "will(0,1,0,0,0)=STATE", "alias(4,1)=STATE", "say(4,0,1,0,1)=STATE",
            "leave(0,0)=NONE");
        refused(BUSY + "row:a/b/c/d", "level(1)=FULL", "level(28)=FULL", "leave(0,2)=NONE");
        refused(BUSY + "top()", "subscribe(0,0,0)=STATE", "subscribe(4,2,3)=STATE", "will(0,1,0,0,0)=STATE", "alias(0,1)=STATE", "say(0,0,1,0,1)=STATE",
            "leave(0,0)=NONE", "leave(3,1)=NONE");
        e.edge(2, "what is refused changes nothing");
        refused("200*feed(32)", "feed(126)=FULL", "feed(-1)=BAD", "end(201)=BAD");
    }

    private void theTape() {
        e.edge(4, "what is refused changes nothing (but THE TAPE, as told).");
        for (String text : new String[] {"~", "kept_a_1_0;~", "sub0_c_0_0;sub0_c_0_0;", "kept"}) {
            Run faulty = e.run(BUSY + "end(0) type:" + text);
            e.is("text() of " + text + " is refused", faulty.ask("text()") <= -10 ? 1 : 0, 1);
            e.is("bytes behind " + text, faulty.ask("rule(9)"), 0);
            e.same("behind " + text, Look.world(faulty), Look.world(e.run(BUSY)));
            faulty.then("rule(8)=2 rule(10)=1");
        }
        e.run(BUSY + "end(12)=BAD rule(9)=11 text()=1 kept(0,1)=8");
    }

    private void calls512() {
        e.edge(1, "An object is used for at most 512 calls after it has been made; what later calls answer is free.");
        e.run("511*tick(50)=0 rule(0)=25550");
        e.run("wake(0,1,9) level(1) subscribe(0,0,0) 508*say(0,0,1,0,0)=1 rule(1)=508");
        e.run("wake(0,1,9) level(1) subscribe(0,1,0) say(0,0,5,1,0) 507*carry(0,0,2)=0 client(0,12)=507");
        Run run = e.run("wake(0,1,9) level(1) subscribe(0,1,0)");
        for (int n = 1; n <= 169; n++) {
            run.then("say(0,0,5,1,0)=1 carry(0,0,0)=0 carry(0,1,0)=1");
        }
        run.then("say(0,0,5,1,0)=1 flight(0,0,0)=170");
        e.is("the 512th call was the last", run.calls(), 512);
        e.run("511*keep(1) keep(1)=1");
        e.run("200*feed(32) text()=0 200*feed(32) text()=0 100*feed(32) feed(126) text()=-110 5*level(1) rule(8)=4");
    }

    private void plainWords() {
        e.plain(2, "Ahead of the calls `feed`, `end`, `text`, `fault`, `level`, `top` the interface says: ---- the text, the row.");
        e.plain(8, "Ahead of the calls `wake`, `sleep`, `will`, `subscribe`, `leave`, `alias`, `say` the interface says: ---- clients.");
        e.plain(15, "Ahead of the calls `carry`, `again`, `tick` the interface says: ---- lines.");
        e.plain(18, "Ahead of the calls `rule`, `client`, `subscription`, `kept`, `had`, `line`, `flight`, `took` the interface says: ---- what there is.");
        e.plain(26, "Ahead of the calls `keep`, `back` the interface says: ---- images.");
    }
}
