/** The boundary cases of subscriptions, aliases, letters, what is kept: promises 11 to 14. */
final class EdgesOfLetters {
    private final Edges e;

    private EdgesOfLetters(Edges e) {
        this.e = e;
    }

    static void play(Edges e) {
        EdgesOfLetters all = new EdgesOfLetters(e);
        all.sixSubscriptions();
        all.oneOfAFilterAndGroup();
        all.subscribeBounds();
        all.subscribeRefused();
        all.subscribeGetsKept();
        all.subscribeSeventh();
        all.leave();
        all.leaveRefused();
        all.alias();
        all.aliasTerms();
        all.say();
        all.sayRefused();
        all.keptTerms();
        all.letterNumbers();
        all.sayKeeps();
        all.thirteenth();
        all.goesToSessions();
        all.lesserPromise();
    }

    private void sixSubscriptions() {
        e.edge(11, "A SESSION: SUBSCRIPTIONS 0 on (6 at most, by when they came):");
        Run run = e.run("wake(0,1,9) client(0,3)=0 subscription(0,0,0)=NONE");
        String letters = "fbzacd";
        for (int i = 0; i < 6; i++) {
            run.then("row:" + letters.charAt(i) + " subscribe(0,1,0)=0 client(0,3)=" + (i + 1)).then("subscription(0," + (i + 1) + ",0)=NONE");
        }
        run.then("row:e subscribe(0,1,0)=FULL client(0,3)=6");
        for (int i = 0; i < 6; i++) {
            run.then("subscription(0," + i + ",4)=" + (letters.charAt(i) - 'a' + 1));
        }
        run.then("row:f leave(0,0)=5 row:e subscribe(0,1,0)=0 subscription(0,0,4)=2 subscription(0,5,4)=5 subscription(0,6,4)=NONE");
        run.then("row:g subscribe(0,1,0)=FULL row:b subscribe(0,2,0)=0 subscription(0,0,4)=2 subscription(0,0,1)=2 client(0,3)=6");
    }

    private void oneOfAFilterAndGroup() {
        e.edge(11, "of one FILTER and GROUP one;");
        e.run("wake(0,1,9) row:a subscribe(0,1,0) subscribe(0,2,0) client(0,3)=1 subscription(0,0,1)=2 subscribe(0,0,1) subscribe(0,1,2)"
            + " subscribe(0,2,3) client(0,3)=4 subscribe(0,2,1) client(0,3)=4 subscription(0,0,1)=2 subscription(0,1,1)=2 subscription(0,2,1)=1"
            + " row:a/a subscribe(0,0,0) client(0,3)=5 row:a/# subscribe(0,0,0) client(0,3)=6 row:a subscribe(0,0,0) subscription(0,0,1)=0"
            + " subscription(0,4,1)=0 client(0,3)=6");
        e.plain(11, "LIFE;");
        e.plain(11, "IN FLIGHT, a QUEUE, two LINES, KNOWN numbers; a WILL or none.");
    }

    private void subscribeBounds() {
        e.edge(11, "a FILTER, a PROMISE (0 to 2), a GROUP (0 none, 1 to 3);");
        for (int promise = 0; promise <= 2; promise++) {
            for (int group = 0; group <= 3; group++) {
                e.run("wake(0,1,9) row:a subscribe(0," + promise + "," + group + ")=0 subscription(0,0,1)=" + promise
                    + " subscription(0,0,2)=" + group + " rule(7)=" + (group == 0 ? 0 : 1));
            }
        }
        e.edge(11, "BAD: c, promise, group (0 to 3);");
        e.run("wake(0,1,9) wake(5,1,9) row:a subscribe(-1,0,0)=BAD subscribe(6,0,0)=BAD subscribe(0,-1,0)=BAD subscribe(0,3,0)=BAD"
            + " subscribe(0,MIN,0)=BAD subscribe(0,MAX,0)=BAD subscribe(0,0,-1)=BAD subscribe(0,0,4)=BAD subscribe(0,0,MIN)=BAD"
            + " subscribe(0,0,MAX)=BAD client(0,3)=0 subscribe(5,2,3)=0 client(5,3)=1");
        e.edge(11, "A SUBSCRIPTION, with THE ROW as FILTER (of one that it has of that GROUP: the PROMISE is new):");
        for (String filter : new String[] {"a", "+", "#", "a/+/z/#", "a/b/c/d"}) {
            e.run("told:sub1_" + filter + "_0_1; row:" + filter + " wake(0,1,9) subscribe(0,2,0)=0 subscription(0,0,0)="
                + (filter.length() + 1) / 2);
            e.run("wake(0,1,9) row:" + filter + " subscribe(0,0,1) subscribe(0,2,1)=0 client(0,3)=1 subscription(0,0,1)=2 subscribe(0,0,1)=0"
                + " subscription(0,0,1)=0");
        }
    }

    private void subscribeRefused() {
        e.edge(11, "STATE: it is not AWAKE, THE ROW is empty;");
        e.run("row:a subscribe(0,0,0)=STATE subscribe(0,3,0)=BAD wake(0,1,9) subscribe(0,0,0)=0 sleep(0,0) subscribe(0,1,0)=STATE subscription(0,0,1)=0");
        e.run("wake(0,1,9) subscribe(0,0,0)=STATE subscribe(0,0,4)=BAD level(28) subscribe(0,0,0)=0 top() subscribe(0,0,0)=STATE client(0,3)=1");
    }

    private void subscribeGetsKept() {
        e.edge(11, "how many KEPT went to it: by GROUP 0 each whose TOPIC MATCHES, by order, by the lesser PROMISE.");
        e.run("wake(0,1,9) row:# subscribe(0,2,0)=0 client(0,6)=0 rule(2)=0");
        e.run("told:kept_a_1_0; wake(0,1,9) row:b subscribe(0,2,0)=0 row:a subscribe(0,2,0)=1 client(0,6)=1 rule(2)=1 row:a/# subscribe(0,2,0)=1");
        StringBuilder twelve = new StringBuilder("told:");
        for (int i = 0; i < 12; i++) {
            twelve.append("kept_").append((char) ('l' - i)).append("_").append(i + 1).append("_").append(i % 3).append(";");
        }
        Run run = e.run(twelve + " wake(0,1,9) row:# subscribe(0,1,0)=12 rule(2)=12 client(0,4)=4 client(0,5)=4 client(0,6)=8");
        int[] line = {1, 2, 3, 4, 5, 6, 7, 10};
        for (int i = 0; i < 8; i++) {
            run.then("line(0,0," + i + ",4)=" + line[i] + " line(0,0," + i + ",2)=" + (line[i] - 1));
        }
        e.run(twelve + " wake(0,1,9) row:# subscribe(0,0,0)=12 client(0,6)=12 client(0,4)=0 line(0,0,11,4)=12 line(0,0,11,3)=0");
        for (int group = 1; group <= 3; group++) {
            e.run(twelve + " wake(0,1,9) row:# subscribe(0,1," + group + ")=0 client(0,6)=0 rule(2)=0");
        }
        for (int kept = 0; kept <= 2; kept++) {
            for (int promise = 0; promise <= 2; promise++) {
                e.run("told:kept_a_9_" + kept + "; wake(0,1,9) row:a subscribe(0," + promise + ",0)=1 line(0,0,0,3)=" + Math.min(kept, promise));
            }
        }
        // What is LOST went, too: a queue that is full takes no more.
        e.run("told:kept_a_1_1; wake(0,1,9) row:a 17*subscribe(0,1,0)=1 rule(2)=17 rule(3)=1 client(0,4)=4 client(0,5)=12");
    }

    private void subscribeSeventh() {
        e.edge(11, "FULL: it would be the 7th of that CLIENT.");
        String six = "wake(0,1,9) wake(1,1,9) row:a subscribe(0,0,0)=0 subscribe(0,0,1)=0 subscribe(0,0,2)=0 subscribe(0,0,3)=0 row:b"
            + " subscribe(0,0,0)=0 subscribe(0,0,1)=0 client(0,3)=6 ";
        e.run(six + "subscribe(0,1,2)=FULL row:c subscribe(0,1,0)=FULL subscribe(0,1,1)=FULL client(0,3)=6 rule(7)=4");
        e.run(six + "subscribe(0,2,1)=0 subscription(0,5,1)=2 subscribe(0,3,2)=BAD top() subscribe(0,0,0)=STATE");
        e.run(six + "row:c subscribe(1,1,0)=0 client(1,3)=1");
        e.run(six + "say(1,0,9,1,1)=2 row:+ subscribe(0,1,0)=FULL rule(2)=2 row:b leave(0,0)=5 row:+ subscribe(0,1,0)=1 client(0,3)=6");
    }

    private void leave() {
        e.edge(12, "The SUBSCRIPTION of THE ROW and a GROUP goes: how many are left.");
        Run run = e.run("told:sub0_a_0_0;sub0_a_0_3;sub0_b_0_0;sub0_a/#_0_0;sub0_#_0_0;sub0_a_0_1; wake(0,0,9)");
        run.then("row:a leave(0,3)=5 subscription(0,1,4)=2 subscription(0,5,0)=NONE leave(0,0)=4 subscription(0,0,4)=2 row:# leave(0,0)=3");
        run.then("row:a/# leave(0,0)=2 subscription(0,0,4)=2 subscription(0,1,2)=1 row:a leave(0,1)=1 row:b leave(0,0)=0 leave(0,0)=NONE client(0,3)=0");
        e.run("told:sub0_a_1_0;sub1_a_1_0; wake(0,0,9) row:a leave(0,0)=0 client(1,3)=1 say(0,0,5,1,0)=1");
        e.run("wake(0,1,9) row:a subscribe(0,1,0) 2*say(0,0,5,1,0) leave(0,0)=0 client(0,4)=2 client(0,6)=2 say(0,0,5,1,0)=0");
    }

    private void leaveRefused() {
        e.edge(12, "BAD; STATE: it is not AWAKE; NONE: there is none.");
        String ready = "told:sub0_a_1_0;sub1_b_1_3; row:a ";
        e.run(ready + "leave(0,0)=STATE leave(0,3)=STATE leave(2,0)=STATE leave(0,4)=BAD leave(0,-1)=BAD client(0,3)=1");
        e.run(ready + "wake(0,0,9) wake(1,0,9) leave(-1,0)=BAD leave(6,0)=BAD leave(0,-1)=BAD leave(0,4)=BAD leave(0,MIN)=BAD leave(0,MAX)=BAD client(0,3)=1");
        e.run(ready + "wake(0,0,9) wake(1,0,9) leave(0,1)=NONE leave(0,3)=NONE leave(1,3)=NONE row:b leave(0,0)=NONE leave(1,0)=NONE leave(1,3)=0");
        e.run(ready + "wake(0,0,9) row:a/a leave(0,0)=NONE row:+ leave(0,0)=NONE row:a/# leave(0,0)=NONE top() leave(0,0)=NONE client(0,3)=1");
        e.run("wake(0,1,9) leave(0,0)=NONE leave(0,3)=NONE leave(0,4)=BAD");
    }

    private void alias() {
        e.edge(13, "ALIAS k of a CLIENT is THE ROW: whether it was something (1, 0).");
        e.run("wake(0,1,9) row:a alias(0,0)=BAD alias(0,5)=BAD alias(0,-1)=BAD alias(0,MIN)=BAD alias(0,MAX)=BAD client(0,9)=0 alias(0,1)=0"
            + " client(0,9)=1 alias(0,4)=0 client(0,9)=2 alias(0,1)=1 alias(0,4)=1 client(0,9)=2 alias(0,2)=0 alias(0,3)=0 client(0,9)=4");
        e.run("wake(0,1,9) row:a/b/c/d alias(0,4)=0 row:b alias(0,1)=0 row:c say(0,4,9,0,1) say(0,1,8,0,1) kept(0,0)=4 kept(1,4)=2"
            + " row:d alias(0,4)=1 top() say(0,4,7,0,1) kept(2,4)=4 rule(6)=3");
        e.run("wake(0,1,9) wake(1,1,9) row:a alias(0,1)=0 alias(1,1)=0 client(1,9)=1");
        e.edge(13, "BAD; STATE: it is not AWAKE, THE ROW is no TOPIC.");
        e.run("row:a alias(0,1)=STATE alias(0,5)=BAD wake(0,1,9) alias(0,1)=0 sleep(0,0) alias(0,2)=STATE alias(0,0)=BAD client(0,9)=1");
        for (String row : new String[] {"", "+", "#", "a/+", "a/#", "a/b/c/+", "+/b/c/d"}) {
            e.run("wake(0,1,9) row:" + row + " alias(0,1)=STATE alias(0,4)=STATE alias(0,5)=BAD client(0,9)=0");
        }
        e.run("wake(0,1,9) row:a alias(0,1)=0 row:+ alias(0,1)=STATE top() alias(0,1)=STATE say(0,1,9,0,1)=0 kept(0,4)=1");
    }

    private void aliasTerms() {
        e.edge(13, "ALIASES 1 to 4 (TOPICS, none at first);");
        e.run("wake(0,1,9) client(0,9)=0 say(0,1,1,0,0)=STATE say(0,2,1,0,0)=STATE say(0,3,1,0,0)=STATE say(0,4,1,0,0)=STATE say(0,5,1,0,0)=BAD");
        e.run("wake(0,1,9) row:a alias(0,4)=0 sleep(0,0) wake(0,0,9) client(0,9)=1 say(0,4,1,0,0)=0 sleep(0,0) wake(0,1,9) client(0,9)=0"
            + " say(0,4,1,0,0)=STATE");
        e.run("wake(0,1,0) row:a alias(0,4)=0 sleep(0,0) wake(0,0,0) client(0,9)=0");
    }

    private void say() {
        e.edge(14, "A CLIENT SAYS a LETTER, with THE ROW as TOPIC (k 0) or that of its ALIAS k: how many times it GOES.");
        e.run("wake(0,1,9) row:a say(0,0,1,0,0)=0 rule(1)=1 subscribe(0,0,0) say(0,0,1,0,0)=1 subscribe(0,0,1) say(0,0,1,0,0)=2 rule(2)=3");
        e.run("wake(0,1,9) row:a alias(0,1) row:b alias(0,4) row:c say(0,1,11,0,1) say(0,4,14,0,1) say(0,0,10,0,1) kept(0,4)=1 kept(1,4)=2"
            + " kept(2,4)=3 top() say(0,1,12,0,0)=0 row:+ say(0,4,12,0,0)=0 rule(1)=5");
        e.run("wake(0,1,9) wake(1,1,9) row:a alias(0,1) row:b alias(1,1) say(0,1,5,0,1) say(1,1,6,0,1) kept(0,4)=1 kept(1,4)=2");
        everyShareAtOnce();
        e.edge(14, "BAD: c, k (0 to 4), value, promise, keep;");
        String ready = "wake(0,1,9) row:a alias(0,4) alias(0,1) ";
        String[][] bounds = {{"V,1,0,0", "4"}, {"0,V,0,0", "99"}, {"0,1,V,0", "2"}, {"0,1,0,V", "1"}};
        for (String[] bound : bounds) {
            int above = Integer.parseInt(bound[1]) + 1;
            for (String wrong : new String[] {"-1", "" + above, "MIN", "MAX"}) {
                e.run(ready + "say(0," + bound[0].replace("V", wrong) + ")=BAD rule(1)=0");
            }
            for (String right : new String[] {"0", bound[1]}) {
                e.run(ready + "say(0," + bound[0].replace("V", right) + ")=0 rule(1)=1");
            }
        }
    }

    /** Six subscriptions of six clients, each a share of its own that matches: a letter goes 36 times. */
    private void everyShareAtOnce() {
        String[] filters = {"a/b/c", "a/b/+", "a/+/c", "a/+/+", "+/b/c", "+/b/+", "+/+/c", "+/+/+", "#", "a/#", "a/b/#", "a/b/c/#"};
        Run run = e.run("");
        int n = 0;
        for (int c = 0; c <= 5; c++) {
            run.then("wake(" + c + ",1,9)");
            for (int i = 0; i < 6; i++) {
                run.then("row:" + filters[n % 12] + " subscribe(" + c + ",2," + (n / 12 + 1) + ")=0");
                n++;
            }
        }
        run.then("rule(7)=36 row:a/b/c say(3,0,7,1,0)=36 rule(2)=36 rule(3)=0");
        n = 0;
        for (int c = 0; c <= 5; c++) {
            run.then("client(" + c + ",4)=4 client(" + c + ",5)=2");
            for (int i = 0; i < 6; i++) {
                run.then("row:" + filters[n % 12] + " had(" + (n / 12 + 1) + ")=" + c);
                n++;
            }
        }
        Run most = e.run("");
        for (int c = 0; c <= 5; c++) {
            most.then("wake(C,1,9) row:a subscribe(C,0,0)".replace("C", "" + c));
        }
        most.then("say(2,0,7,0,0)=6 subscribe(5,0,1) subscribe(5,0,2) subscribe(5,0,3) say(2,0,7,0,0)=9");
    }

    private void sayRefused() {
        e.edge(14, "STATE: it is not AWAKE, THE ROW is no TOPIC, the ALIAS is nothing.");
        e.run("row:a say(0,0,1,0,0)=STATE say(0,0,1,0,2)=BAD wake(0,1,9) say(0,0,1,0,0)=0 alias(0,1) sleep(0,0) say(0,0,1,0,0)=STATE say(0,1,1,0,0)=STATE"
            + " say(0,5,1,0,0)=BAD rule(1)=1");
        for (String row : new String[] {"", "+", "#", "a/+", "a/#", "a/b/c/+", "+/b/c/d"}) {
            e.run("wake(0,1,9) row:a alias(0,2) row:" + row + " say(0,0,1,0,1)=STATE say(0,1,1,0,1)=STATE say(0,3,1,0,1)=STATE say(0,0,100,0,1)=BAD"
                + " rule(1)=0 rule(6)=0 say(0,2,1,0,1)=0 rule(1)=1");
        }
    }

    private void keptTerms() {
        e.edge(21, "KEPT: TOPICS 0 on (12 at most, by when they were kept the latest), each with a VALUE (1 to 99), a PROMISE, the number of its LETTER.");
        Run run = e.run("wake(0,1,9) rule(6)=0 kept(0,0)=NONE");
        for (int i = 0; i < 12; i++) {
            run.then("row:" + (char) ('z' - i) + " say(0,0,%d,0,1)=0 rule(6)=%d kept(%d,0)=NONE".replace("%d", "" + (i + 1)));
        }
        run.then("row:a say(0,0,99,2,1)=0 rule(6)=12 kept(11,4)=1 kept(11,1)=99 kept(11,2)=2 kept(11,3)=12 kept(12,0)=NONE kept(0,4)=25 kept(0,3)=1");
        run.then("row:y say(0,0,1,1,1) kept(11,4)=25 kept(11,1)=1 kept(11,2)=1 kept(11,3)=13 kept(0,4)=24 rule(6)=12");
    }

    private void letterNumbers() {
        e.edge(18, "LETTERS have numbers, 0 on, as they are said.");
        e.run("wake(0,1,9) row:a subscribe(0,0,0) rule(1)=0 say(0,0,5,0,1) kept(0,3)=0 line(0,0,0,2)=0 rule(1)=1 say(0,0,5,0,1) kept(0,3)=1 line(0,0,1,2)=1"
            + " say(0,0,5,3,1)=BAD say(0,1,5,0,1)=STATE say(0,0,0,0,0) line(0,0,2,2)=2 rule(1)=3");
        e.run("wake(0,1,9) wake(1,1,9) row:a subscribe(0,0,0) say(1,0,5,0,0) will(1,6,0,0,0) sleep(1,1) line(0,0,1,2)=1 say(0,0,7,0,0) line(0,0,2,2)=2");
        e.run("told:kept_a_1_0;kept_b_1_0; rule(1)=2 wake(0,1,9) row:c say(0,0,5,0,1) kept(2,3)=2");
    }

    private void sayKeeps() {
        e.edge(14, "To SAY a LETTER: by a CLIENT, a TOPIC, a VALUE (0 to 99), a PROMISE, KEEP or not.");
        e.run("wake(0,1,9) row:a subscribe(0,2,0) say(0,0,0,0,0)=1 say(0,0,99,2,0)=1 rule(6)=0 line(0,0,0,4)=0 line(0,0,1,4)=99");
        e.edge(14, "With KEEP: VALUE 0: KEPT of that TOPIC goes; else it is KEPT, behind all");
        String two = "wake(0,1,9) row:a say(0,0,1,0,1) rule(6)=1 row:b say(0,0,2,0,1) rule(6)=2 ";
        e.run(two + "say(0,0,0,0,0) rule(6)=2 say(0,0,0,0,1)=0 rule(6)=1 kept(0,4)=1 say(0,0,0,0,1) rule(6)=1 row:a say(0,0,0,2,1) rule(6)=0");
        e.run(two + "row:c say(0,0,0,0,1) row:a/b say(0,0,0,0,1) rule(6)=2 kept(0,4)=1 kept(1,4)=2");
        e.run(two + "row:a say(0,0,1,0,1) rule(6)=2 kept(0,4)=2 kept(1,4)=1 kept(1,3)=2");
        e.run(two + "row:a say(0,0,9,0,0) rule(6)=2 kept(0,4)=1 kept(0,1)=1 kept(0,3)=0");
        e.run(two + "row:a say(0,0,0,0,1) say(0,0,5,0,1) kept(0,4)=2 kept(1,1)=5 rule(6)=2");
    }

    private void thirteenth() {
        e.edge(14, "(is it the 13th, the one that was kept the longest ago goes).");
        StringBuilder twelve = new StringBuilder("wake(0,1,9) ");
        for (int i = 0; i < 12; i++) {
            twelve.append("row:").append((char) ('a' + i)).append(" say(0,0,").append(i + 1).append(",0,1) ");
        }
        e.run(twelve + "rule(6)=12 kept(0,4)=1 kept(11,4)=12");
        e.run(twelve + "row:m say(0,0,50,0,1) rule(6)=12 kept(0,4)=2 kept(11,4)=13 kept(12,4)=NONE row:n say(0,0,51,0,1) kept(0,4)=3 kept(11,4)=14");
        e.run(twelve + "row:m say(0,0,0,0,1) rule(6)=12 kept(0,4)=1 say(0,0,9,0,0) rule(6)=12 kept(0,4)=1 kept(11,4)=12");
        e.run(twelve + "row:a say(0,0,50,0,1) rule(6)=12 kept(0,4)=2 kept(11,4)=1 row:m say(0,0,51,0,1) rule(6)=12 kept(0,4)=3 kept(10,4)=1 kept(11,4)=13");
        e.run(twelve + "row:l say(0,0,50,0,1) rule(6)=12 kept(0,4)=1 kept(11,4)=12 kept(11,1)=50");
        e.run(twelve + "row:e say(0,0,0,0,1) rule(6)=11 row:m say(0,0,51,0,1) rule(6)=12 kept(0,4)=1 kept(4,4)=6 kept(11,4)=13");
    }

    private void goesToSessions() {
        e.edge(14, "Then it GOES, by CLIENTS, by number, to each SESSION that has SUBSCRIPTIONS of GROUP 0 that MATCH:");
        e.run("told:sub0_a_1_0;sub2_b_1_0;sub5_+_1_0; wake(1,1,9) wake(5,0,9) row:a say(1,0,5,1,0)=2 client(0,5)=1 client(2,5)=0 client(5,4)=1"
            + " client(1,4)=0 row:a/a say(1,0,5,1,0)=0 rule(1)=2 rule(2)=2");
        e.run("wake(0,1,9) row:a subscribe(0,1,0) row:+ subscribe(0,1,0) row:# subscribe(0,1,0) row:a say(0,0,5,1,0)=1 client(0,4)=1");
        // What a session gets for itself comes ahead of what it gets by a share.
        e.run("wake(0,1,9) row:# subscribe(0,1,1) row:a subscribe(0,2,0) say(0,0,5,2,0)=2 flight(0,0,2)=2 flight(0,1,2)=1");
    }

    private void lesserPromise() {
        e.edge(14, "by the lesser of its PROMISE and the greatest of theirs;");
        for (int said = 0; said <= 2; said++) {
            for (int one = 0; one <= 2; one++) {
                for (int other = 0; other <= 2; other++) {
                    e.run("wake(0,1,9) row:a subscribe(0," + one + ",0) row:# subscribe(0," + other + ",0) row:b subscribe(0,2,0) row:a"
                        + " subscribe(0,2,1) say(0,0,5," + said + ",0)=2 line(0,0,0,3)=" + Math.min(said, Math.max(one, other)));
                }
            }
        }
    }
}
