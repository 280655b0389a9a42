/** The boundary cases of images: promises 26 and 27. */
final class EdgesOfImages {
    /** Something of everything that an image holds: the first part says how it came, the second changes it all. */
    private static final String BUSY = "told:kept_a_5_2;kept_b_6_1;sub1_a/#_1_1;sub2_a/#_1_1; tick(3) wake(0,1,20) wake(3,1,20) row:a subscribe(0,2,0)"
        + " alias(0,2) will(3,9,1,1,4) sleep(3,1) say(0,0,1,2,1) say(0,0,2,2,0) say(0,0,3,1,0) say(0,0,4,2,0) say(0,0,5,2,0) 2*carry(0,0,0) carry(0,1,0)"
        + " say(0,0,8,0,0) will(0,3,2,0,1) ";
    private static final String CHANGES = "row:c alias(0,2) alias(0,1) say(0,0,7,0,1) row:a say(0,2,50,2,1) 3*carry(0,0,0) 2*carry(0,1,0) again(0) subscribe(0,0,3)"
        + " will(0,1,0,0,0) leave(0,0) sleep(0,1) tick(7) wake(0,0,5) wake(1,1,5) wake(5,1,5) row:# subscribe(1,2,0) row:a say(5,0,1,2,0) carry(1,0,0) ";

    private final Edges e;

    private EdgesOfImages(Edges e) {
        this.e = e;
    }

    static void play(Edges e) {
        EdgesOfImages all = new EdgesOfImages(e);
        all.keep();
        all.keepIsAll();
        all.keepLeavesOut();
        all.back();
        all.backIsAll();
        all.goesOnAsItDid();
    }

    private void keep() {
        e.edge(26, "whether there was one (1, 0).");
        e.run("keep(0)=0 keep(0)=1 keep(1)=0 keep(1)=1 keep(0)=1 rule(10)=2 text()=0 rule(10)=0 keep(0)=0 keep(1)=0");
        e.run("keep(0)=0 type:~ text()=-10 keep(0)=1 back(0)=0 keep(0)=1");
        e.edge(26, "BAD.");
        e.run("keep(-1)=BAD keep(2)=BAD keep(MIN)=BAD keep(MAX)=BAD rule(10)=0 back(0)=STATE back(1)=STATE");
    }

    private void keepIsAll() {
        e.edge(26, "IMAGE k (0, 1) is all that there is,");
        for (int k = 0; k <= 1; k++) {
            e.same("behind keep(" + k + ")", Look.world(e.run(BUSY + "keep(" + k + ")=0")), Look.world(e.run(BUSY)));
            e.run("tick(1) keep(%)=0 tick(1) back(%)=1 tick(5) keep(%)=1 tick(1) back(%)=6".replace("%", "" + k));
        }
        e.run("tick(1) keep(0) tick(1) keep(1) tick(1) back(0)=1 back(1)=2 back(0)=1 rule(0)=1 keep(1)=1 back(1)=1");
        e.run("keep(0)=0 wake(0,1,9) row:a say(0,0,5,0,1) rule(6)=1 back(0)=0 rule(6)=0 rule(1)=0 client(0,0)=0");
    }

    private void keepLeavesOut() {
        e.edge(26, "but THE TAPE, THE ROW, IMAGES, what fault() tells:");
        e.run("type:ab row:a/b keep(0) feed(99) top() rule(10)=1 keep(1) back(0)=0 rule(9)=3 rule(8)=0 rule(10)=2 end(0)=3 row:c/d/e back(0) rule(9)=0 rule(8)=3");
        e.run("keep(0) type:~ text()=-10 fault()=1 back(0) fault()=1 keep(1) type:; text()=-10 back(1) fault()=2 text()=0 fault()=0 rule(10)=0");
        e.run("row:a keep(0) row:b back(0) wake(0,1,9) say(0,0,5,0,1) kept(0,4)=2");
        e.run("keep(0) type:kept_z_1_0; back(0) text()=1 kept(0,4)=26");
        e.run("type:kept_z_1_0; keep(0) end(0) back(0) text()=0 rule(6)=0");
        e.run("keep(0) keep(1) back(0) rule(10)=2 back(1)=0 back(0)=0");
    }

    private void back() {
        e.edge(27, "All is as IMAGE k: CLOCK.");
        e.run("keep(0) tick(50) keep(1) tick(50) back(0)=0 rule(0)=0 back(1)=50 rule(0)=50 back(1)=50");
        e.edge(27, "BAD; STATE: there is none.");
        e.run("back(-1)=BAD back(2)=BAD back(MIN)=BAD back(MAX)=BAD back(0)=STATE back(1)=STATE tick(2) keep(1) tick(2) back(0)=STATE back(2)=BAD rule(0)=4"
            + " back(1)=2 text()=0 back(1)=STATE");
    }

    private void backIsAll() {
        e.edge(27, "All is as IMAGE k:");
        for (int k = 0; k <= 1; k++) {
            String keep = "keep(" + k + ") ";
            String back = "back(" + k + ")=3 ";
            e.same("behind back(" + k + ")", Look.world(e.run(BUSY + keep + CHANGES + back + "row:a")), Look.world(e.run(BUSY)));
            e.same("back(" + k + ") twice", Look.world(e.run(BUSY + keep + back + CHANGES + back + "row:a")), Look.world(e.run(BUSY)));
            e.same("had of the shares", Look.world(e.run(BUSY + keep + CHANGES + back + "row:a/#")), Look.world(e.run(BUSY + "row:a/#")));
        }
    }

    /** What can not be seen is back, too: it goes on as it did. */
    private void goesOnAsItDid() {
        e.edge(27, "All is as IMAGE k:");
        e.same("it goes on", Look.world(e.run(BUSY + "keep(0) " + CHANGES + "back(0)=3 " + CHANGES)), Look.world(e.run(BUSY + CHANGES)));
        // The number that comes next, the topic, delay, promise, KEEP of a will, the topic of an alias, who HAD a share, as KEPT.
        e.run("wake(0,1,9) row:a subscribe(0,1,0) say(0,0,5,1,0) keep(0) 2*say(0,0,5,1,0) flight(0,2,0)=3 back(0) say(0,0,6,1,0) flight(0,1,0)=2");
        e.run("wake(0,1,9) row:a/b will(0,11,2,1,6) keep(0) row:z will(0,22,0,0,1) back(0) sleep(0,1)=0 client(0,11)=6 tick(6)=1 kept(0,0)=2 kept(0,1)=11 kept(0,2)=2");
        e.run("wake(0,1,9) row:a/b will(0,11,2,0,6) sleep(0,1) keep(0) wake(0,0,9) row:z will(0,22,0,1,2) sleep(0,1) back(0) tick(5)=0 tick(1)=1 rule(6)=0 rule(1)=1");
        e.run("wake(0,1,9) row:a will(0,11,2,1,6) keep(1) sleep(0,0) back(1)=0 client(0,10)=1 sleep(0,1)=0 client(0,11)=6");
        for (int k = 1; k <= 4; k++) {
            e.run("wake(0,1,9) row:a alias(0,%) keep(0) row:b alias(0,%)=1 back(0) say(0,%,5,0,1) kept(0,4)=1".replace("%", "" + k));
            e.run("wake(0,1,9) row:a keep(0) alias(0,%)=0 back(0) client(0,9)=0 say(0,%,5,0,1)=STATE".replace("%", "" + k));
        }
        e.run("told:sub0_a_0_1;sub1_a_0_1;sub2_a_0_1; wake(0,0,9) wake(1,0,9) wake(2,0,9) row:a say(0,0,5,0,0) keep(0) say(0,0,5,0,0) had(1)=1 back(0) had(1)=0"
            + " say(0,0,5,0,0) had(1)=1");
        e.run("told:kept_a_5_1; wake(0,1,9) row:a subscribe(0,1,0) keep(0) carry(0,0,1) say(0,0,6,1,0) back(0) carry(0,0,0) took(0,0,3)=1 took(0,0,1)=5");
        e.run("told:kept_a_5_1; wake(0,1,9) row:a subscribe(0,1,0) keep(0) carry(0,0,1) back(0) carry(0,0,1) again(0)=1 carry(0,0,0) took(0,0,3)=1");
        e.run("wake(0,1,9) row:a subscribe(0,2,0) 2*say(0,0,5,2,0) carry(0,0,0) keep(0) carry(0,0,0) back(0) client(0,8)=1 again(0) carry(0,0,0) client(0,12)=2"
            + " carry(0,0,0) client(0,12)=2 client(0,8)=2");
        e.run("wake(0,1,3) sleep(0,0) tick(1) keep(0) wake(0,0,9) sleep(0,0) back(0)=1 client(0,2)=3 tick(1) client(0,0)=2 tick(1) client(0,0)=0");
    }
}
