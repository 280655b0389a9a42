/** The boundary cases of going, of lines and packets: promises 15 and 16, and 14, 23, 24 as far as letters go. */
final class EdgesOfLines {
    private static final String ONE = "wake(0,1,9) wake(1,1,9) row:a subscribe(0,2,0) ";

    private final Edges e;

    private EdgesOfLines(Edges e) {
        this.e = e;
    }

    static void play(Edges e) {
        EdgesOfLines all = new EdgesOfLines(e);
        all.goingByNone();
        all.fourInFlight();
        all.numbers();
        all.twelveInTheQueue();
        all.queueGoesOn();
        all.sixteenDown();
        all.sixteenUp();
        all.kinds();
        all.carriedDown();
        all.carriedTwiceDown();
        all.free();
        all.carriedUp();
        all.others();
        all.carry();
        all.carryRefused();
        all.sendAgain();
        all.again();
    }

    private void goingByNone() {
        e.edge(14, "GOING by PROMISE 0: is it AWAKE, a packet OUT (number 0) comes on its LINE DOWN; else it is LOST.");
        e.run(ONE + "say(1,0,5,0,0)=1 client(0,6)=1 line(0,0,0,0)=0 line(0,0,0,1)=0 line(0,0,0,3)=0 client(0,4)=0 client(0,5)=0 rule(3)=0");
        e.run(ONE + "sleep(0,0) say(1,0,5,0,0)=1 client(0,6)=0 client(0,5)=0 rule(3)=1 rule(2)=1 wake(0,0,9) client(0,6)=0");
        // By 0 it waits for nobody, be four in flight and the queue full.
        e.run(ONE + "16*say(1,0,5,1,0) client(0,5)=12 client(0,6)=4 say(1,0,6,0,0)=1 client(0,6)=5 line(0,0,4,4)=6 line(0,0,4,1)=0 rule(3)=0");
        e.run(ONE + "say(1,0,6,0,0) say(1,0,5,1,0) flight(0,0,0)=1 line(0,0,1,1)=1");
    }

    private void fourInFlight() {
        e.edge(14, "By 1, 2: is it AWAKE, the QUEUE empty and fewer than 4 IN FLIGHT: it is IN FLIGHT:");
        for (int promise = 1; promise <= 2; promise++) {
            Run run = e.run(ONE + "client(0,4)=0");
            for (int n = 1; n <= 4; n++) {
                run.then("say(1,0,5," + promise + ",0)=1 client(0,4)=" + n + " client(0,5)=0 client(0,6)=" + n + " flight(0," + (n - 1) + ",0)=" + n);
            }
            run.then("say(1,0,6," + promise + ",0)=1 client(0,4)=4 client(0,5)=1 client(0,6)=4 flight(0,4,0)=0 flight(0,4,3)=6 rule(3)=0");
        }
        e.run(ONE + "sleep(0,0) say(1,0,5,1,0)=1 client(0,4)=0 client(0,5)=1 flight(0,0,0)=0");
        e.run(ONE + "3*say(1,0,5,1,0) sleep(0,0) say(1,0,6,1,0) client(0,4)=3 client(0,5)=1 flight(0,3,0)=0");
    }

    private void numbers() {
        e.edge(24, "it gets the next number of the SESSION (1 on), OUT comes on LINE DOWN;");
        e.run(ONE + "say(1,0,5,2,0) flight(0,0,0)=1 line(0,0,0,0)=0 line(0,0,0,1)=1 say(1,0,6,0,0) say(1,0,7,1,0) flight(0,1,0)=2 line(0,0,2,1)=2");
        Run run = e.run("wake(0,1,9) row:a subscribe(0,1,0)");
        for (int n = 1; n <= 80; n++) {
            run.then("say(0,0,5,1,0) flight(0,0,0)=" + n + " carry(0,0,0) carry(0,1,0)=1 client(0,4)=0");
        }
        e.run(ONE + "2*say(1,0,5,1,0) sleep(0,0) wake(0,0,9) say(1,0,5,1,0) flight(0,2,0)=3 sleep(0,0) wake(0,1,9) subscribe(0,2,0) say(1,0,5,1,0) flight(0,0,0)=1");
        e.run("wake(0,1,9) wake(1,1,9) row:a subscribe(0,1,0) 2*say(0,0,5,1,0) subscribe(1,1,0) say(0,0,5,1,0)=2 flight(0,2,0)=3 flight(1,0,0)=1");
    }

    private void twelveInTheQueue() {
        e.edge(14, "else it comes into the QUEUE (12 at most; else it is LOST).");
        Run asleep = e.run(ONE + "sleep(0,0)");
        for (int n = 1; n <= 12; n++) {
            asleep.then("say(1,0," + n + ",1,0)=1 client(0,5)=" + n + " rule(3)=0");
        }
        asleep.then("say(1,0,13,1,0)=1 client(0,5)=12 rule(3)=1 rule(2)=13 say(1,0,14,2,0)=1 rule(3)=2 flight(0,0,3)=1 flight(0,11,3)=12 flight(0,12,3)=NONE");
        asleep.then("wake(0,0,9) client(0,4)=4 client(0,5)=8 4*say(1,0,20,1,0) client(0,5)=12 rule(3)=2 say(1,0,21,1,0)=1 client(0,5)=12 rule(3)=3");
        Run awake = e.run(ONE + "4*say(1,0,1,1,0)");
        for (int n = 1; n <= 12; n++) {
            awake.then("say(1,0," + n + ",2,0)=1 client(0,5)=" + n + " rule(3)=0");
        }
        awake.then("say(1,0,50,2,0)=1 client(0,4)=4 client(0,5)=12 rule(3)=1 flight(0,15,3)=12 flight(0,16,3)=NONE");
        awake.then("carry(0,0,0) carry(0,1,0)=1 client(0,5)=11 say(1,0,51,2,0)=1 client(0,5)=12 rule(3)=1 flight(0,15,3)=51");
        e.run(ONE + "4*say(1,0,1,1,0) sleep(0,0) 12*say(1,0,2,1,0) client(0,5)=12 client(0,4)=4 rule(3)=0 say(1,0,3,1,0)=1 rule(3)=1");
    }

    private void queueGoesOn() {
        e.edge(15, "Whenever it is AWAKE, and fewer than 4 are IN FLIGHT, the first of the QUEUE is IN FLIGHT so.");
        String six = ONE + "say(1,0,1,1,0) say(1,0,2,1,0) say(1,0,3,2,0) say(1,0,4,1,0) say(1,0,5,2,0) say(1,0,6,1,0) client(0,4)=4 client(0,5)=2 ";
        e.run(six + "carry(0,0,0) client(0,5)=2 carry(0,1,0)=1 client(0,4)=4 client(0,5)=1 flight(0,3,0)=5 flight(0,3,3)=5 flight(0,4,0)=0 flight(0,4,3)=6"
            + " client(0,6)=4 line(0,0,3,1)=5 line(0,0,3,4)=5 line(0,0,3,3)=2");
        e.run(six + "carry(0,0,1) carry(0,0,1) carry(0,0,0) carry(0,1,0)=2 client(0,4)=4 client(0,5)=2 carry(0,0,1) carry(0,0,0)=3 carry(0,1,0)=4"
            + " client(0,4)=4 client(0,5)=1 flight(0,2,3)=4 flight(0,3,3)=5");
        e.run(six + "4*carry(0,0,0) carry(0,1,0)=1 carry(0,1,0)=1 client(0,5)=0 client(0,4)=4 carry(0,1,0)=2 carry(0,1,0)=1 client(0,4)=3 say(1,0,7,1,0)"
            + " client(0,4)=4 flight(0,3,0)=7");
        // Asleep the queue waits, also with nothing in flight.
        e.run(ONE + "sleep(0,0) 2*say(1,0,5,1,0) tick(3) client(0,4)=0 client(0,5)=2 wake(0,0,9) client(0,4)=2 client(0,5)=0");
    }

    private void sixteenDown() {
        e.edge(23, "A LINE has 16 packets at most (one more is LOST ON IT, not counted),");
        Run run = e.run(ONE);
        for (int n = 1; n <= 16; n++) {
            run.then("say(1,0," + n + ",0,0)=1 client(0,6)=" + n);
        }
        run.then("say(1,0,17,0,0)=1 client(0,6)=16 rule(3)=0 rule(2)=17 line(0,0,15,4)=16 line(0,0,16,4)=NONE line(0,0,0,4)=1");
        run.then("carry(0,0,0) client(0,6)=15 say(1,0,18,0,0) client(0,6)=16 line(0,0,15,4)=18 line(0,0,14,4)=16");
        // One that is in flight stays so, though its packet is lost on the line; it is sent again.
        e.run(ONE + "15*say(1,0,1,0,0) say(1,0,2,1,0) client(0,6)=16 line(0,0,15,1)=1 say(1,0,3,1,0)=1 client(0,6)=16 client(0,4)=2 rule(3)=0"
            + " flight(0,1,0)=2 16*carry(0,0,1) again(0)=2 client(0,6)=2 line(0,0,1,4)=3");
        e.run(ONE + "16*say(1,0,1,0,0) sleep(0,0) client(0,6)=0 wake(0,0,9) client(0,6)=0");
        // FREE is lost on a full line, too; it is FREED all the same.
        e.run(ONE + "say(1,0,2,2,0) carry(0,0,0) 16*say(1,0,1,0,0) carry(0,1,0)=2 client(0,6)=16 line(0,0,15,0)=0 flight(0,0,4)=1 carry(0,0,1)"
            + " again(0)=1 line(0,0,15,0)=3");
        e.run(ONE + "say(1,0,2,2,0) carry(0,0,0) 15*say(1,0,1,0,0) carry(0,1,0)=2 client(0,6)=16 line(0,0,15,0)=3");
        e.run(ONE + "4*say(1,0,2,1,0) say(1,0,3,1,0) carry(0,0,0) 13*say(1,0,1,0,0) client(0,6)=16 carry(0,1,0)=1 client(0,4)=4 client(0,5)=0 client(0,6)=16");
    }

    private void sixteenUp() {
        e.edge(15, "A LINE has 16 packets at most (one more is LOST ON IT, not counted),");
        Run run = e.run("wake(0,1,9) row:a subscribe(0,1,0) say(0,0,5,1,0)");
        for (int n = 1; n <= 16; n++) {
            run.then("carry(0,0,2)=0 client(0,7)=" + n);
        }
        run.then("carry(0,0,2)=0 client(0,7)=16 client(0,12)=17 rule(3)=0 line(0,1,15,0)=1 line(0,1,16,0)=NONE");
        run.then("carry(0,1,1)=1 client(0,7)=15 carry(0,0,0)=0 client(0,7)=16 client(0,12)=18");
        // HAD is lost, the number is KNOWN all the same; DONE is lost, the number is not KNOWN any more all the same.
        e.run("wake(0,1,9) row:a subscribe(0,2,0) say(0,0,5,1,0) say(0,0,6,2,0) 16*carry(0,0,2) carry(0,0,1) client(0,7)=16 carry(0,0,2)=0 client(0,7)=16"
            + " client(0,8)=1 client(0,12)=17 carry(0,1,1) carry(0,0,0)=0 client(0,7)=16 client(0,12)=17 line(0,1,15,0)=2");
        e.run("wake(0,1,9) row:a subscribe(0,2,0) say(0,0,6,2,0) carry(0,0,0) carry(0,1,0)=2 line(0,0,0,0)=3 say(0,0,5,1,0) carry(0,0,2) client(0,8)=0"
            + " 15*carry(0,0,2) client(0,7)=16 carry(0,0,2)=3 client(0,7)=16 rule(3)=0");
        e.run("wake(0,1,9) row:a subscribe(0,2,0) say(0,0,6,2,0) carry(0,0,2) 15*carry(0,0,2) client(0,7)=16 carry(0,1,2)=2 client(0,6)=2 carry(0,0,1)=0"
            + " client(0,8)=1 carry(0,0,0)=3 client(0,8)=0 client(0,7)=16 line(0,1,15,0)=2");
    }

    private void kinds() {
        e.edge(23, "each a kind (0 OUT, 1 GOT, 2 HAD, 3 FREE, 4 DONE) and a number (OUT: the LETTER, PROMISE, whether as KEPT, too).");
        e.run("told:kept_a_33_2; wake(0,1,9) row:a subscribe(0,2,0)=1 line(0,0,0,0)=0 line(0,0,0,1)=1 line(0,0,0,2)=0 line(0,0,0,3)=2 line(0,0,0,4)=33"
            + " carry(0,0,0)=0 took(0,0,3)=1 line(0,1,0,0)=2 line(0,1,0,1)=1 carry(0,1,0)=2 line(0,0,0,0)=3 line(0,0,0,1)=1 carry(0,0,0)=3"
            + " line(0,1,0,0)=4 line(0,1,0,1)=1 carry(0,1,0)=4 client(0,4)=0 say(0,0,44,1,1) line(0,0,0,0)=0 line(0,0,0,1)=2 carry(0,0,0)=0"
            + " took(0,1,3)=0 line(0,1,0,0)=1 line(0,1,0,1)=2 carry(0,1,0)=1");
        // As KEPT stays with it: by 0, in the queue, in flight, sent again; said with KEEP it is not as KEPT.
        e.run("told:kept_a_33_0; wake(0,1,9) row:a subscribe(0,2,0)=1 carry(0,0,0) took(0,0,3)=1 took(0,0,2)=0 say(0,0,5,0,1) carry(0,0,0) took(0,1,3)=0");
        e.run("told:kept_a_33_1; wake(0,1,9) row:b subscribe(0,1,0) 4*say(0,0,5,1,0) row:a subscribe(0,1,0)=1 client(0,5)=1 say(0,0,6,1,0)"
            + " 4*carry(0,0,0) carry(0,1,0) carry(0,1,0) client(0,5)=0 carry(0,0,1) carry(0,0,1) again(0)=4 carry(0,0,1) carry(0,0,1)"
            + " carry(0,0,0) took(0,4,3)=1 took(0,4,1)=33 carry(0,0,0) took(0,5,3)=0 took(0,5,1)=6");
        e.run("told:kept_a_33_1; wake(0,1,9) row:a subscribe(0,1,0)=1 sleep(0,0) wake(0,0,9) carry(0,0,0) took(0,0,3)=1");
        e.run("wake(0,1,9) row:a subscribe(0,1,3)=0 say(0,0,5,1,1)=1 say(0,0,6,0,1)=1 2*carry(0,0,0) took(0,0,3)=0 took(0,1,3)=0");
        e.run("told:kept_a_33_1; wake(0,1,9) row:a subscribe(0,1,3)=0 say(0,0,5,1,0)=1 carry(0,0,0) took(0,0,3)=0 will(0,7,1,1,0) sleep(0,1)=1 wake(0,0,9)"
            + " 2*carry(0,0,0) took(0,2,1)=7 took(0,2,3)=0");
    }

    private void carriedDown() {
        e.edge(15, "Carried DOWN: OUT of 0: the CLIENT TAKES it; of 1: it TAKES it, GOT comes on LINE UP;");
        e.run(ONE + "say(1,0,5,0,0) carry(0,0,0)=0 client(0,12)=1 client(0,7)=0 client(0,8)=0 took(0,0,1)=5 took(0,0,2)=0 rule(4)=1");
        e.run(ONE + "say(1,0,5,1,0) carry(0,0,0)=0 client(0,12)=1 client(0,7)=1 line(0,1,0,0)=1 client(0,8)=0 took(0,0,2)=1 rule(4)=1 client(0,4)=1");
        e.run(ONE + "say(1,0,5,0,0) carry(0,0,2)=0 carry(0,0,2)=0 client(0,12)=2 client(0,6)=1");
        e.run(ONE + "say(1,0,5,1,0) carry(0,0,2)=0 carry(0,0,0)=0 client(0,12)=2 client(0,7)=2 line(0,1,1,1)=1");
    }

    private void carriedTwiceDown() {
        e.edge(15, "of 2: if the number is not KNOWN, it TAKES it, and it is KNOWN then; HAD comes UP.");
        e.run(ONE + "say(1,0,5,2,0) client(0,8)=0 carry(0,0,2)=0 client(0,8)=1 client(0,12)=1 client(0,7)=1 line(0,1,0,0)=2 carry(0,0,0)=0 client(0,8)=1"
            + " client(0,12)=1 client(0,7)=2 line(0,1,1,0)=2 line(0,1,1,1)=1 rule(4)=1 took(0,0,2)=2");
        e.run(ONE + "4*say(1,0,5,2,0) 4*carry(0,0,0) client(0,8)=4 client(0,12)=4 again(0)=4 4*carry(0,0,0) client(0,12)=4 client(0,8)=4 client(0,7)=8");
        e.run(ONE + "say(1,0,5,2,0) carry(0,0,0) sleep(0,1) client(0,8)=1 wake(0,0,9) carry(0,0,0)=0 client(0,12)=1 client(0,7)=1");
        // A number that is used anew in a new session is not KNOWN there.
        e.run(ONE + "say(1,0,5,2,0) carry(0,0,0) sleep(0,1) wake(0,1,9) client(0,8)=0 subscribe(0,2,0) say(1,0,6,2,0) flight(0,0,0)=1 carry(0,0,0) client(0,12)=2");
        e.run(ONE + "2*say(1,0,5,2,0) carry(0,0,1) carry(0,0,0) client(0,8)=1 again(0)=2 carry(0,0,0) client(0,8)=2 client(0,12)=2 carry(0,0,0) client(0,12)=2");
    }

    private void free() {
        e.edge(15, "FREE: the number is not KNOWN any more; DONE comes UP.");
        e.run(ONE + "say(1,0,5,2,0) carry(0,0,0) carry(0,1,0) client(0,8)=1 carry(0,0,2)=3 client(0,8)=0 client(0,7)=1 line(0,1,0,0)=4 line(0,1,0,1)=1"
            + " carry(0,0,0)=3 client(0,8)=0 client(0,7)=2 client(0,4)=1");
        e.run(ONE + "3*say(1,0,5,2,0) 3*carry(0,0,0) client(0,8)=3 carry(0,1,1) carry(0,1,0)=2 carry(0,0,0)=3 client(0,8)=2 again(0)=3 carry(0,0,0)"
            + " client(0,12)=3 carry(0,0,0)=3 carry(0,0,0)=0 client(0,12)=3 client(0,8)=2");
    }

    private void carriedUp() {
        e.edge(15, "Carried UP: GOT: one IN FLIGHT of that number by 1 is off;");
        e.run(ONE + "3*say(1,0,5,1,0) 2*carry(0,0,0) carry(0,1,1) carry(0,1,0)=1 client(0,4)=2 flight(0,0,0)=1 flight(0,1,0)=3 rule(5)=1");
        e.edge(15, "HAD: one of it by 2 is FREED: FREE comes DOWN;");
        e.run(ONE + "2*say(1,0,5,2,0) 2*carry(0,0,0) carry(0,1,1) flight(0,1,4)=0 carry(0,1,0)=2 flight(0,0,4)=0 flight(0,1,4)=1 client(0,4)=2 rule(5)=0"
            + " client(0,6)=1 line(0,0,0,0)=3 line(0,0,0,1)=2");
        e.run(ONE + "say(1,0,5,2,0) carry(0,0,0) carry(0,1,2)=2 carry(0,1,2)=2 client(0,6)=2 line(0,0,1,0)=3 flight(0,0,4)=1 client(0,4)=1");
        e.edge(15, "DONE: one of it by 2 that is FREED is off;");
        e.run(ONE + "2*say(1,0,5,2,0) 2*carry(0,0,0) 2*carry(0,1,0) 2*carry(0,0,0) carry(0,1,1)=4 client(0,4)=2 carry(0,1,0)=4 client(0,4)=1"
            + " flight(0,0,0)=1 flight(0,0,4)=1 rule(5)=1 again(0)=1 carry(0,0,0)=3 carry(0,1,0)=4 client(0,4)=0 rule(5)=2");
    }

    private void others() {
        e.edge(15, "others nothing.");
        e.run(ONE + "say(1,0,5,1,0) carry(0,0,0) carry(0,1,2)=1 client(0,4)=0 rule(5)=1 say(1,0,6,1,0) carry(0,1,2)=1 client(0,4)=1 rule(5)=1 client(0,6)=1");
        e.run(ONE + "say(1,0,5,2,0) carry(0,0,2) carry(0,0,0) carry(0,1,0)=2 carry(0,0,0)=3 line(0,1,0,0)=2 line(0,1,1,0)=4 carry(0,1,1)=2 carry(0,1,2)=4"
            + " client(0,4)=0 rule(5)=1 carry(0,1,0)=4 rule(5)=1 client(0,6)=0");
        // HAD of one that is off already frees nothing.
        e.run(ONE + "say(1,0,5,2,0) carry(0,0,0) carry(0,1,2)=2 carry(0,0,0)=3 carry(0,1,1) carry(0,1,0)=4 client(0,4)=0 client(0,6)=0 rule(5)=1");
        e.run(ONE + "say(1,0,5,2,0) 3*carry(0,0,2) carry(0,0,1) carry(0,1,0)=2 carry(0,0,2)=3 carry(0,0,2)=3 2*carry(0,1,1) carry(0,1,0)=4 say(1,0,6,2,0)"
            + " carry(0,1,0)=4 client(0,4)=1 flight(0,0,4)=0");
        // Those that wait in the queue have the number 0; no packet is of that number.
        e.run(ONE + "5*say(1,0,5,1,0) carry(0,0,0) carry(0,1,2) client(0,4)=4 client(0,5)=0 carry(0,1,2) client(0,4)=4 rule(5)=1");
    }

    private void carry() {
        e.edge(15, "The first packet of LINE DOWN (way 0), UP (1) of a CLIENT: is carried (fate 0), is lost (1), is carried, and stays the first (2): its kind.");
        String two = ONE + "say(1,0,5,1,0) say(1,0,6,1,0) ";
        e.run(two + "carry(0,0,0)=0 client(0,6)=1 client(0,12)=1 line(0,0,0,4)=6 carry(0,1,0)=1 client(0,7)=0 client(0,4)=1");
        e.run(two + "carry(0,0,1)=0 client(0,6)=1 client(0,12)=0 client(0,7)=0 line(0,0,0,4)=6 carry(0,0,0) carry(0,1,1)=1 client(0,7)=0 client(0,4)=2 rule(3)=0");
        e.run(two + "carry(0,0,2)=0 client(0,6)=2 client(0,12)=1 line(0,0,0,4)=5 carry(0,1,2)=1 client(0,7)=1 client(0,4)=1 line(0,1,0,1)=1");
        e.run(ONE + "say(1,0,5,2,0) carry(0,0,1)=0 again(0) carry(0,0,0)=0 carry(0,1,1)=2 again(0) carry(0,0,0)=0 carry(0,1,0)=2 carry(0,0,1)=3 again(0)"
            + " carry(0,0,0)=3 carry(0,1,1)=4 again(0) carry(0,0,2)=3 carry(0,1,2)=4 client(0,4)=0 client(0,12)=1");
        for (String wrong : new String[] {"carry(0,-1,0)", "carry(0,2,0)", "carry(0,MIN,0)", "carry(0,MAX,0)", "carry(0,0,-1)", "carry(0,0,3)",
            "carry(0,0,MIN)", "carry(0,0,MAX)", "carry(-1,0,0)", "carry(6,0,0)"}) {
            e.run(two + wrong + "=BAD client(0,6)=2 client(0,12)=0");
        }
    }

    private void carryRefused() {
        e.edge(15, "BAD; STATE: it is not AWAKE; NONE: there is none.");
        for (int fate = 0; fate <= 2; fate++) {
            String calls = "carry(0,0,F)=STATE carry(0,1,F)=STATE carry(0,2,F)=BAD ".replace("F", "" + fate);
            String none = "carry(0,0,F)=NONE carry(0,1,F)=NONE carry(0,-1,F)=BAD ".replace("F", "" + fate);
            e.run(calls + "wake(0,1,9) " + none + "sleep(0,0) " + calls);
            e.run(ONE + "say(1,0,5,1,0) sleep(0,0) " + calls + "wake(0,0,9) carry(0,0,0)=0 " + none.replace("carry(0,1," + fate + ")=NONE", "client(0,7)=1")
                + "carry(0,1,0)=1 " + none);
            e.run(ONE + "say(1,0,5,1,0) carry(0,1," + fate + ")=NONE carry(1,0," + fate + ")=NONE client(0,6)=1");
        }
    }

    private void sendAgain() {
        e.edge(16, "To SEND AGAIN: for all IN FLIGHT, by order: OUT, of those FREED FREE, comes DOWN.");
        e.run(ONE + "say(1,0,5,2,0) say(1,0,6,1,0) say(1,0,7,2,0) 3*carry(0,0,0) 2*carry(0,1,1) carry(0,1,0)=2 carry(0,0,1)=3 client(0,6)=0 again(0)=3"
            + " client(0,6)=3 line(0,0,0,0)=0 line(0,0,0,1)=1 line(0,0,0,4)=5 line(0,0,0,3)=2 line(0,0,1,0)=0 line(0,0,1,4)=6 line(0,0,1,3)=1"
            + " line(0,0,2,0)=3 line(0,0,2,1)=3 rule(2)=3 client(0,4)=3");
    }

    private void again() {
        e.edge(16, "All IN FLIGHT of a CLIENT are SENT AGAIN: how many.");
        Run run = e.run(ONE);
        for (int n = 0; n <= 4; n++) {
            run.then("again(0)=" + n + " say(1,0,5,1,0)");
        }
        run.then("client(0,5)=1 16*carry(0,0,1) again(0)=4 client(0,6)=4 again(0)=4 again(0)=4 client(0,6)=12 again(0)=4 client(0,6)=16 again(0)=4"
            + " client(0,6)=16 rule(3)=0 again(1)=0");
        e.edge(16, "BAD; STATE: it is not AWAKE.");
        e.run(ONE + "say(1,0,5,1,0) again(-1)=BAD again(6)=BAD again(MIN)=BAD again(MAX)=BAD again(2)=STATE sleep(0,0) again(0)=STATE client(0,6)=0"
            + " again(5)=STATE wake(0,0,9) client(0,6)=1 again(0)=1 client(0,6)=2");
    }
}
