/** The boundary cases of what there is: promises 18 to 25. */
final class EdgesOfFacts {
    private final Edges e;

    private EdgesOfFacts(Edges e) {
        this.e = e;
    }

    static void play(Edges e) {
        EdgesOfFacts all = new EdgesOfFacts(e);
        all.ruleCounts();
        all.ruleSizes();
        all.clientStage();
        all.clientCounts();
        all.clientNone();
        all.subscription();
        all.kept();
        all.had();
        all.line();
        all.flight();
        all.took();
    }

    private void wrong(String ready, String unchanged, String... calls) {
        for (String call : calls) {
            e.run(ready + " " + call + "=BAD " + unchanged);
        }
    }

    private void ruleCounts() {
        e.edge(18, "0 CLOCK, 1 LETTERS (all that have a number), 2 how often they WENT (also KEPT ones), 3 how often LOST,");
        e.run("rule(0)=0 tick(50) tick(50) rule(0)=100 rule(1)=0 rule(2)=0 rule(3)=0");
        e.run("told:kept_a_1_0;kept_b_1_0; rule(1)=2 wake(0,1,9) row:# subscribe(0,0,0)=2 rule(1)=2 rule(2)=2 row:c say(0,0,0,0,0)=1 rule(1)=3 rule(2)=3"
            + " subscribe(0,0,1)=0 rule(2)=3 row:z/z say(0,0,1,0,0)=1 rule(1)=4 rule(2)=4");
        e.run("told:sub0_a_1_0; wake(1,1,9) row:a say(1,0,5,0,0) rule(3)=1 12*say(1,0,5,1,0) rule(3)=1 say(1,0,5,1,0) rule(3)=2 rule(2)=14 wake(0,0,9)"
            + " 20*say(1,0,5,0,0) rule(3)=2 carry(0,0,1) rule(3)=2 sleep(0,0) rule(3)=2 wake(0,1,9) rule(3)=2 rule(2)=34");
        e.edge(18, "4 how often one was TAKEN, 5 how often one went off from IN FLIGHT,");
        e.run("wake(0,1,9) wake(1,1,9) row:a subscribe(0,2,0) subscribe(1,1,0) say(0,0,5,2,0)=2 rule(4)=0 rule(5)=0 carry(0,0,1) rule(4)=0 again(0)"
            + " carry(0,0,2) rule(4)=1 carry(0,0,0) rule(4)=1 carry(1,0,2) rule(4)=2 carry(1,0,0) rule(4)=3 carry(1,1,0) rule(5)=1 carry(1,1,0) rule(5)=1"
            + " carry(0,1,0) rule(5)=1 carry(0,0,0)=3 carry(0,1,1) carry(0,1,0)=4 rule(5)=2 rule(4)=3");
        e.run("wake(0,1,9) row:a subscribe(0,1,0) 3*say(0,0,5,1,0) carry(0,0,0) carry(0,1,0) rule(5)=1 sleep(0,0) wake(0,1,9) rule(5)=1 rule(4)=1 sleep(0,0)"
            + " tick(9) client(0,0)=0 rule(5)=1 rule(4)=1 rule(3)=0");
        e.edge(18, "BAD.");
        e.run("rule(-1)=BAD rule(11)=BAD rule(12)=BAD rule(MIN)=BAD rule(MAX)=BAD rule(0)=0 rule(10)=0");
    }

    private void ruleSizes() {
        e.edge(18, "6 KEPT, 7 SHARES, 8 LEVELS of THE ROW, 9 bytes on THE TAPE, 10 IMAGES.");
        e.run("rule(6)=0 rule(7)=0 rule(8)=0 rule(9)=0 rule(10)=0 keep(1) rule(10)=1 keep(1) rule(10)=1 keep(0) rule(10)=2 back(0) rule(10)=2 text() rule(10)=0");
        e.run("level(1) rule(8)=1 3*level(1) rule(8)=4 level(1) rule(8)=4 feed(32) rule(9)=1 198*feed(32) feed(32) rule(9)=200 feed(32) rule(9)=200");
        e.run("wake(0,1,9) row:a say(0,0,1,0,1) rule(6)=1 say(0,0,2,0,1) rule(6)=1 say(0,0,0,0,1) rule(6)=0 subscribe(0,0,0) rule(7)=0 subscribe(0,0,1) rule(7)=1"
            + " subscribe(0,0,3) rule(7)=2 leave(0,1) rule(7)=1 sleep(0,0) rule(7)=1 tick(9) rule(7)=0");
    }

    private void clientStage() {
        e.edge(19, "Of a CLIENT: 0 no SESSION (0), AWAKE (1), ASLEEP (2), 1 LIFE, 2 the CLOCK when its SESSION ends (NONE: it is AWAKE),");
        e.run("client(5,0)=0 wake(5,1,0) client(5,0)=1 client(5,1)=0 client(5,2)=NONE sleep(5,0) client(5,0)=0 client(5,1)=NONE client(5,2)=NONE");
        e.run("tick(7) wake(5,1,99) client(5,1)=99 client(5,2)=NONE sleep(5,1) client(5,0)=2 client(5,1)=99 client(5,2)=106 tick(1) client(5,2)=106"
            + " wake(5,0,1) client(5,0)=1 client(5,1)=1 client(5,2)=NONE sleep(5,0) client(5,2)=9");
    }

    private void clientCounts() {
        e.edge(19, "3 SUBSCRIPTIONS, 4 IN FLIGHT, 5 in the QUEUE, 6, 7 packets on LINE DOWN, UP, 8 KNOWN numbers, 9 ALIASES that are something,"
            + " 10 whether it has a WILL (1, 0)");
        Run none = e.run("wake(2,1,9)");
        for (int what = 3; what <= 10; what++) {
            none.then("client(2," + what + ")=0");
        }
        e.run("wake(2,1,9) wake(3,1,9) row:a subscribe(2,2,0) subscribe(2,0,1) subscribe(2,0,2) subscribe(2,0,3) row:b subscribe(2,0,0) subscribe(2,0,1) row:a"
            + " 4*say(3,0,5,2,0) client(2,6)=16 client(2,3)=6 client(2,4)=4 client(2,5)=0 12*say(3,0,5,2,0) client(2,5)=12 client(2,6)=16"
            + " alias(2,1) alias(2,2) alias(2,3) client(2,9)=3 alias(2,4) client(2,9)=4 will(2,1,0,0,0) client(2,10)=1 client(2,7)=0 client(2,8)=0");
        e.run("wake(2,1,9) row:a subscribe(2,2,0) 4*say(2,0,5,2,0) 3*carry(2,0,0) client(2,8)=3 client(2,7)=3 client(2,6)=1 carry(2,0,2) client(2,8)=4"
            + " 12*carry(2,0,2) client(2,7)=16 client(2,8)=4 client(2,12)=4");
        e.run("row:a wake(2,1,9) client(2,10)=0 will(2,1,0,0,3) client(2,10)=1 sleep(2,1) client(2,10)=0 client(2,11)=3 wake(2,0,9) client(2,10)=0");
        e.run("row:a wake(2,1,9) will(2,1,0,0,3) sleep(2,1) tick(3)=1 client(2,0)=2 client(2,10)=0 client(2,11)=NONE");
        e.run("row:a wake(2,1,9) will(2,1,0,0,0) sleep(2,1) rule(1)=1 client(2,0)=2 client(2,10)=0 client(2,11)=NONE wake(2,0,9) client(2,10)=0 sleep(2,1) rule(1)=1");
    }

    private void clientNone() {
        e.edge(19, "(without a SESSION 1 to 10: NONE),");
        Run run = e.run("row:a wake(4,1,9) subscribe(4,0,0) say(4,0,5,0,0) carry(4,0,0) sleep(4,0) tick(8) client(4,12)=1 client(4,3)=1 tick(1) client(4,0)=0");
        for (int what = 1; what <= 11; what++) {
            run.then("client(4," + what + ")=NONE client(0," + what + ")=NONE");
        }
        run.then("client(4,0)=0 client(0,0)=0 client(4,12)=1 client(0,12)=0");
        e.edge(19, "12 how many it TOOK (in all its SESSIONS).");
        e.run("client(0,12)=0 wake(0,1,9) client(0,12)=0 row:a subscribe(0,0,0) say(0,0,5,0,0) client(0,12)=0 carry(0,0,2) client(0,12)=1 carry(0,0,0) client(0,12)=2"
            + " sleep(0,0) client(0,12)=2 wake(0,1,0) client(0,12)=2 subscribe(0,0,0) say(0,0,5,0,0) carry(0,0,0) client(0,12)=3 sleep(0,0) client(0,12)=3 rule(4)=3");
        Run many = e.run("wake(0,1,9) row:a subscribe(0,0,0) say(0,0,5,0,0) 31*carry(0,0,2) client(0,12)=31 99*carry(0,0,2) client(0,12)=130");
        many.then("rule(4)=130");
        e.edge(19, "BAD.");
        wrong("wake(0,1,9)", "client(0,0)=1 client(0,12)=0", "client(0,-1)", "client(0,13)", "client(0,MIN)", "client(0,MAX)", "client(-1,0)", "client(6,0)",
            "client(1,13)", "client(1,-1)", "client(6,13)");
    }

    private void subscription() {
        e.edge(20, "Of a SUBSCRIPTION: 0 LEVELS of its FILTER, 1 PROMISE, 2 GROUP, 3 whether it MATCHES THE ROW (1, 0; NONE: that is no TOPIC),");
        String two = "told:sub4_a/b/+/#_2_3;sub4_z_0_0; ";
        e.run(two + "subscription(4,0,0)=4 subscription(4,0,1)=2 subscription(4,0,2)=3 subscription(4,1,0)=1 subscription(4,1,1)=0 subscription(4,1,2)=0");
        e.run(two + "subscription(4,1,3)=NONE row:z subscription(4,1,3)=1 subscription(4,0,3)=0 row:y subscription(4,1,3)=0 row:z/z subscription(4,1,3)=0"
            + " row:+ subscription(4,1,3)=NONE row:# subscription(4,1,3)=NONE row:z/# subscription(4,1,3)=NONE row:a/b subscription(4,0,3)=0 row:a/b/c"
            + " subscription(4,0,3)=1 row:a/b/c/d subscription(4,0,3)=1");
        e.edge(20, "4 to 7 LEVEL 0 to 3 (0: there is none).");
        e.run(two + "subscription(4,0,4)=1 subscription(4,0,5)=2 subscription(4,0,6)=27 subscription(4,0,7)=28 subscription(4,1,4)=26 subscription(4,1,5)=0"
            + " subscription(4,1,6)=0 subscription(4,1,7)=0");
        e.run("told:sub0_a/b/c_0_0;sub0_#_0_0; subscription(0,0,6)=3 subscription(0,0,7)=0 subscription(0,1,4)=28 subscription(0,1,5)=0");
        e.edge(20, "BAD: c, i below 0, what; NONE: there are not so many.");
        wrong(two, "client(4,3)=2", "subscription(-1,0,0)", "subscription(6,0,0)", "subscription(4,-1,0)", "subscription(4,MIN,0)", "subscription(4,0,-1)",
            "subscription(4,0,8)", "subscription(4,0,MIN)", "subscription(4,0,MAX)", "subscription(4,2,8)", "subscription(0,0,8)", "subscription(0,-1,0)");
        for (int what = 0; what <= 7; what++) {
            e.run(two + "subscription(4,2,%)=NONE subscription(4,MAX,%)=NONE subscription(0,0,%)=NONE".replace("%", "" + what));
        }
        e.run("told:sub0_a_0_0;sub0_b_0_0;sub0_c_0_0;sub0_d_0_0;sub0_e_0_0;sub0_f_0_0; subscription(0,5,4)=6 subscription(0,6,4)=NONE");
    }

    private void kept() {
        e.edge(21, "Of the i-th KEPT: 0 LEVELS, 1 VALUE, 2 PROMISE, 3 its LETTER, 4 to 7 LEVEL 0 to 3 (0).");
        String two = "told:kept_a/b/c/z_99_2;kept_m_1_0; ";
        e.run(two + "kept(0,0)=4 kept(0,1)=99 kept(0,2)=2 kept(0,3)=0 kept(0,4)=1 kept(0,5)=2 kept(0,6)=3 kept(0,7)=26"
            + " kept(1,0)=1 kept(1,1)=1 kept(1,2)=0 kept(1,3)=1 kept(1,4)=13 kept(1,5)=0 kept(1,6)=0 kept(1,7)=0");
        e.edge(21, "BAD: i below 0, what; NONE: there are not so many.");
        wrong(two, "rule(6)=2", "kept(-1,0)", "kept(MIN,0)", "kept(0,-1)", "kept(0,8)", "kept(0,MIN)", "kept(0,MAX)", "kept(2,8)", "kept(-1,8)");
        for (int what = 0; what <= 7; what++) {
            e.run(two + "kept(2,%)=NONE kept(MAX,%)=NONE text() kept(0,%)=NONE".replace("%", "" + what));
        }
        e.run("told:kept_a1_0;kept_b1_0;kept_c1_0;kept_d1_0;kept_e1_0;kept_f1_0;kept_g1_0;kept_h1_0;kept_i1_0;kept_j1_0;kept_k1_0;kept_l1_0;"
            + " kept(11,4)=12 kept(12,4)=NONE");
    }

    private void had() {
        e.edge(22, "Who HAD a SHARE of a GROUP (1 to 3) and of THE ROW as FILTER the latest.");
        String ready = "told:sub4_a/#_1_1;sub5_a/#_1_3;sub0_a_1_1; wake(1,1,9) row:a say(1,0,5,1,0)=3 ";
        e.run(ready + "had(1)=0 had(3)=NONE row:a/# had(1)=4 had(2)=NONE had(3)=5");
        e.edge(22, "BAD; NONE: nobody, or there is no such.");
        wrong(ready, "had(1)=0", "had(0)", "had(4)", "had(-1)", "had(MIN)", "had(MAX)");
        e.run("had(1)=NONE had(2)=NONE had(3)=NONE row:a had(1)=NONE had(0)=BAD had(4)=BAD");
        e.run("told:sub0_a_1_1; row:a had(1)=NONE row:b had(1)=NONE");
        e.run(ready + "top() had(1)=NONE row:+ had(1)=NONE row:a/a had(1)=NONE row:a/+ had(1)=NONE");
        e.run("told:sub0_a_1_0; wake(0,0,9) row:a say(0,0,5,1,0)=1 had(1)=NONE had(2)=NONE had(3)=NONE");
    }

    private void line() {
        e.edge(23, "Of the i-th packet (0 on) of a LINE: 0 kind, 1 number, 2 the LETTER (NONE: not OUT), 3 PROMISE (NONE), 4 VALUE (NONE).");
        String three = "told:kept_b_1_0; wake(2,1,9) row:a subscribe(2,2,0) say(2,0,0,2,0) say(2,0,99,0,0) say(2,0,5,1,0) ";
        e.run(three + "line(2,0,0,0)=0 line(2,0,0,1)=1 line(2,0,0,2)=1 line(2,0,0,3)=2 line(2,0,0,4)=0 line(2,0,1,1)=0 line(2,0,1,2)=2 line(2,0,1,3)=0"
            + " line(2,0,1,4)=99 line(2,0,2,1)=2 line(2,0,2,3)=1");
        Run bare = e.run(three + "3*carry(2,0,0) line(2,1,0,0)=2 line(2,1,0,1)=1 line(2,1,1,0)=1 line(2,1,1,1)=2 carry(2,1,0) line(2,0,0,0)=3 line(2,0,0,1)=1");
        for (int what = 2; what <= 4; what++) {
            bare.then("line(2,1,0,%)=NONE line(2,0,0,%)=NONE".replace("%", "" + what));
        }
        bare.then("carry(2,0,0)=3 line(2,1,1,0)=4 line(2,1,1,1)=1 line(2,1,1,2)=NONE line(2,1,1,3)=NONE line(2,1,1,4)=NONE");
        e.edge(23, "BAD: c, way, i below 0, what; NONE: there are not so many.");
        wrong(three, "client(2,6)=3", "line(-1,0,0,0)", "line(6,0,0,0)", "line(2,-1,0,0)", "line(2,2,0,0)", "line(2,MIN,0,0)", "line(2,MAX,0,0)",
            "line(2,0,-1,0)", "line(2,0,MIN,0)", "line(2,0,0,-1)", "line(2,0,0,5)", "line(2,0,0,MIN)", "line(2,0,0,MAX)", "line(2,0,3,5)", "line(0,0,0,5)",
            "line(0,2,0,0)", "line(0,0,-1,0)");
        for (int what = 0; what <= 4; what++) {
            e.run(three + "line(2,0,3,%)=NONE line(2,0,MAX,%)=NONE line(2,1,0,%)=NONE line(0,0,0,%)=NONE line(0,1,0,%)=NONE sleep(2,0) line(2,0,0,%)=NONE"
                .replace("%", "" + what));
        }
        e.run("wake(2,1,9) row:a subscribe(2,1,0) 16*say(2,0,7,0,0) line(2,0,15,4)=7 line(2,0,16,4)=NONE");
    }

    private void flight() {
        e.edge(24, "Of the i-th IN FLIGHT (0 on), behind these in the QUEUE: 0 its number (0: in the QUEUE), 1 the LETTER, 2 PROMISE, 3 VALUE,"
            + " 4 whether it is FREED (1, 0).");
        StringBuilder many = new StringBuilder("wake(2,1,9) row:a subscribe(2,2,0) say(2,0,60,0,0) ");
        for (int n = 1; n <= 16; n++) {
            many.append("say(2,0,").append(n).append(",").append(n % 2 + 1).append(",0) ");
        }
        Run run = e.run(many.toString());
        for (int i = 0; i < 16; i++) {
            run.then("flight(2,%,0)=".replace("%", "" + i) + (i < 4 ? i + 1 : 0) + " flight(2,%,1)=".replace("%", "" + i) + (i + 1)
                + " flight(2,%,2)=".replace("%", "" + i) + ((i + 1) % 2 + 1) + " flight(2,%,3)=".replace("%", "" + i) + (i + 1)
                + " flight(2,%,4)=0".replace("%", "" + i));
        }
        run.then("carry(2,0,0) 2*carry(2,0,0) carry(2,1,0)=2 flight(2,0,4)=1 flight(2,1,4)=0 flight(2,0,0)=1 sleep(2,0)"
            + " flight(2,0,4)=1 flight(2,3,0)=4 flight(2,15,3)=16");
        // What was in flight ahead of it leaves nothing to one that waits: no number, no FREED.
        e.run("wake(1,1,9) wake(2,1,9) row:a subscribe(2,2,0) 4*say(1,0,5,2,0) 4*carry(2,0,0) 4*carry(2,1,0) 4*carry(2,0,0) 4*carry(2,1,0) client(2,4)=0"
            + " sleep(2,0) 2*say(1,0,6,1,0) flight(2,0,0)=0 flight(2,1,0)=0 flight(2,0,4)=0 flight(2,2,0)=NONE wake(2,0,9) flight(2,0,0)=5 flight(2,1,0)=6");
        e.run("wake(1,1,9) wake(2,1,9) row:a subscribe(2,2,0) 3*say(1,0,5,2,0) sleep(2,0) wake(2,1,9) subscribe(2,2,0) sleep(2,0) say(1,0,6,2,0)"
            + " flight(2,0,0)=0 flight(2,0,3)=6 flight(2,1,0)=NONE");
        e.edge(24, "BAD: c, i below 0, what; NONE: there are not so many.");
        wrong(many.toString(), "client(2,4)=4", "flight(-1,0,0)", "flight(6,0,0)", "flight(2,-1,0)", "flight(2,MIN,0)", "flight(2,0,-1)", "flight(2,0,5)",
            "flight(2,0,MIN)", "flight(2,0,MAX)", "flight(2,16,5)", "flight(0,0,5)", "flight(0,-1,0)");
        for (int what = 0; what <= 4; what++) {
            e.run(many + "flight(2,16,%)=NONE flight(2,MAX,%)=NONE flight(0,0,%)=NONE".replace("%", "" + what));
        }
        e.run("wake(2,1,9) row:a subscribe(2,1,0) flight(2,0,0)=NONE say(2,0,7,1,0) flight(2,0,0)=1 flight(2,1,0)=NONE");
    }

    private void took() {
        e.edge(25, "Of the i-th of the latest 30 that a CLIENT TOOK (0 on: 0 is the one that it TOOK first of these): 0 the LETTER, 1 VALUE, 2 PROMISE,"
            + " 3 whether as KEPT (1, 0).");
        e.run("told:kept_a_33_2; wake(1,1,9) row:a subscribe(1,2,0) say(1,0,0,1,0) say(1,0,99,0,0) 3*carry(1,0,0) took(1,0,0)=0 took(1,0,1)=33 took(1,0,2)=2"
            + " took(1,0,3)=1 took(1,1,0)=1 took(1,1,1)=0 took(1,1,2)=1 took(1,1,3)=0 took(1,2,0)=2 took(1,2,1)=99 took(1,2,2)=0 took(1,2,3)=0 took(1,3,0)=NONE");
        StringBuilder thirty = new StringBuilder("wake(1,1,0) row:a subscribe(1,0,0) ");
        for (int n = 1; n <= 30; n++) {
            thirty.append("say(1,0,").append(n).append(",0,0) carry(1,0,0) ");
        }
        e.run(thirty + "client(1,12)=30 took(1,0,1)=1 took(1,0,0)=0 took(1,28,1)=29 took(1,29,1)=30 took(1,30,1)=NONE");
        e.run(thirty + "say(1,0,31,0,0) carry(1,0,0) client(1,12)=31 took(1,0,1)=2 took(1,0,0)=1 took(1,29,1)=31 took(1,30,1)=NONE");
        e.run(thirty + "say(1,0,31,0,0) 30*carry(1,0,2) took(1,0,1)=31 took(1,29,1)=31 client(1,12)=60 say(1,0,32,0,0) carry(1,0,0) carry(1,0,0) took(1,28,1)=31"
            + " took(1,29,1)=32 took(1,30,1)=NONE");
        e.run(thirty + "sleep(1,0) client(1,0)=0 took(1,0,1)=1 took(1,29,1)=30 wake(1,1,9) took(1,29,1)=30");
        e.edge(25, "BAD: c, i below 0, what; NONE: there are not so many.");
        wrong(thirty.toString(), "client(1,12)=30", "took(-1,0,0)", "took(6,0,0)", "took(1,-1,0)", "took(1,MIN,0)", "took(1,0,-1)", "took(1,0,4)", "took(1,0,MIN)",
            "took(1,0,MAX)", "took(1,30,4)", "took(0,0,4)", "took(0,-1,0)");
        for (int what = 0; what <= 3; what++) {
            e.run(thirty + "took(1,30,%)=NONE took(1,MAX,%)=NONE took(0,0,%)=NONE".replace("%", "" + what));
        }
    }
}
