/** The boundary cases of shares and their turns: promises 14 and 22. */
final class EdgesOfShares {
    private final Edges e;

    private EdgesOfShares(Edges e) {
        this.e = e;
    }

    static void play(Edges e) {
        EdgesOfShares all = new EdgesOfShares(e);
        all.shares();
        all.whoHadIt();
        all.order();
        all.orderOfLevels();
        all.turns();
        all.turnsOfSleepers();
        all.round();
        all.promises();
    }

    private void shares() {
        e.edge(18, "A SHARE: all SUBSCRIPTIONS of one GROUP (1 to 3) and one FILTER;");
        e.run("wake(0,1,9) wake(1,1,9) row:a subscribe(0,0,0) rule(7)=0 subscribe(0,0,1) rule(7)=1 subscribe(1,0,1) rule(7)=1 subscribe(1,0,2) rule(7)=2"
            + " subscribe(0,0,3) rule(7)=3 row:a/# subscribe(0,0,3) rule(7)=4 row:+ subscribe(0,0,3) rule(7)=5 row:a say(0,0,1,0,0)=6");
        e.run("told:sub0_a_0_1;sub1_a_0_1;sub2_a_0_1; rule(7)=1 wake(0,0,9) row:a say(0,0,1,0,0)=1 leave(0,1)=0 rule(7)=1");
        e.run("told:sub0_a_0_1;sub1_a_0_1; wake(0,0,9) wake(1,0,9) row:a leave(0,1)=0 rule(7)=1 say(0,0,1,0,0)=1 leave(1,1)=0 rule(7)=0 say(0,0,1,0,0)=0");
    }

    private void whoHadIt() {
        e.edge(22, "who HAD it the latest (none at first, and when there are no more of it).");
        String two = "told:sub0_a_0_1;sub3_a_0_1; wake(0,0,9) wake(3,0,9) row:a ";
        e.run(two + "had(1)=NONE say(0,0,1,0,0)=1 had(1)=0 say(0,0,1,0,0) had(1)=3 had(2)=NONE");
        e.run(two + "say(0,0,1,0,0) leave(0,1)=0 had(1)=0 subscribe(0,0,1) had(1)=0 say(0,0,1,0,0) had(1)=3");
        e.run(two + "say(0,0,1,0,0) leave(3,1)=0 had(1)=0 leave(0,1)=0 had(1)=NONE subscribe(0,0,1) had(1)=NONE subscribe(3,0,1) say(0,0,1,0,0) had(1)=0");
        e.run(two + "2*say(0,0,1,0,0) had(1)=3 leave(3,1) leave(0,1) subscribe(0,0,1) subscribe(3,0,1) say(0,0,1,0,0) had(1)=0");
        // By an end, by a clean wake, by a session of life 0 there are no more of it, too.
        e.run("wake(1,1,9) wake(0,1,2) row:a subscribe(0,0,1) say(1,0,1,0,0) had(1)=0 sleep(0,0) tick(1) had(1)=0 tick(1) had(1)=NONE rule(7)=0");
        e.run("wake(1,1,9) wake(0,1,2) row:a subscribe(0,0,1) say(1,0,1,0,0) sleep(0,0) had(1)=0 wake(0,1,2) had(1)=NONE subscribe(0,0,1) had(1)=NONE");
        e.run("wake(1,1,9) wake(0,1,0) row:a subscribe(0,0,1) say(1,0,1,0,0) had(1)=0 sleep(0,0) had(1)=NONE wake(0,0,9) subscribe(0,0,1) had(1)=NONE");
        e.run("wake(1,1,9) wake(0,1,2) row:a subscribe(0,0,1) subscribe(1,0,1) say(1,0,1,0,0) had(1)=0 sleep(0,0) tick(2) client(0,0)=0 had(1)=0"
            + " leave(1,1)=0 had(1)=NONE");
        e.run("wake(0,1,9) row:a subscribe(0,0,1) say(0,0,1,0,0) had(1)=0 sleep(0,0) wake(0,0,9) had(1)=0 subscribe(0,2,1) had(1)=0");
        // As long as one is left in it, whoever that is.
        for (int c = 0; c <= 5; c++) {
            String last = "" + (c + 1) % 6;
            String left = "told:sub" + c + "_a_0_1;sub%_a_0_1; wake(%,0,0) row:a say(%,0,1,0,0) had(1)=% ";
            e.run((left + "leave(%,1)=0 rule(7)=1 had(1)=%").replace("%", last));
            e.run((left + "sleep(%,0) rule(7)=1 had(1)=% tick(50) tick(49) rule(7)=0 had(1)=NONE").replace("%", last));
        }
    }

    /** One client, whose promises tell in which order it got a letter by its shares. */
    private void ordered(String[] filters, int[] groups, int[] places, String topic) {
        StringBuilder script = new StringBuilder("wake(0,1,9) wake(1,1,9) ");
        for (int i = 0; i < filters.length; i++) {
            script.append("row:").append(filters[i]).append(" subscribe(0,").append(places[i] == 0 ? 2 : 1).append(',').append(groups[i]).append(") ");
        }
        script.append("row:").append(topic).append(" say(1,0,5,2,0)=").append(filters.length);
        script.append(" flight(0,0,2)=2");
        for (int i = 1; i < filters.length; i++) {
            script.append(" flight(0,").append(i).append(",2)=1");
        }
        e.run(script.toString());
    }

    private void order() {
        e.edge(14, "then for each SHARE whose FILTER MATCHES (by GROUP, of one GROUP by FILTERS,");
        ordered(new String[] {"a", "a", "a"}, new int[] {3, 1, 2}, new int[] {2, 0, 1}, "a");
        ordered(new String[] {"a", "#"}, new int[] {2, 1}, new int[] {1, 0}, "a");
        ordered(new String[] {"a", "#"}, new int[] {3, 2}, new int[] {1, 0}, "a");
        ordered(new String[] {"#", "a"}, new int[] {1, 1}, new int[] {1, 0}, "a");
        ordered(new String[] {"#", "a"}, new int[] {1, 0}, new int[] {1, 0}, "a");
        e.run("wake(0,1,9) row:b subscribe(0,0,1) row:a say(0,0,1,0,0)=0 row:b had(1)=NONE row:a/# subscribe(0,0,1) row:a say(0,0,1,0,0)=1 row:a/# had(1)=0"
            + " row:b had(1)=NONE");
    }

    private void orderOfLevels() {
        e.edge(14, "LEVEL by LEVEL, the lesser first, one that ends first is first)");
        String[][] pairs = {{"a", "+", "a"}, {"a", "#", "a"}, {"+", "#", "a"}, {"a", "a/#", "a"}, {"+", "+/#", "a"}, {"a/#", "+", "a"},
            {"a/#", "+/#", "a"}, {"+/#", "#", "a"}, {"a/b", "a/+", "a/b"}, {"a/+", "a/#", "a/b"}, {"a/#", "+/b", "a/b"}, {"a/+", "+/b", "a/b"},
            {"a/b", "a/b/#", "a/b"}, {"a/b/#", "a/+", "a/b"}, {"z/b/c/d", "z/b/c/+", "z/b/c/d"}, {"z/b/c/+", "z/b/c/#", "z/b/c/d"},
            {"z/b/c/#", "z/b/+/d", "z/b/c/d"}, {"z/b/+/+", "z/+/c/d", "z/b/c/d"}, {"z/+/+/+", "+/b/c/d", "z/b/c/d"}, {"a/b/c", "a/b/c/#", "a/b/c"}};
        for (String[] pair : pairs) {
            for (int group = 1; group <= 3; group += 2) {
                ordered(new String[] {pair[0], pair[1]}, new int[] {group, group}, new int[] {0, 1}, pair[2]);
                ordered(new String[] {pair[1], pair[0]}, new int[] {group, group}, new int[] {1, 0}, pair[2]);
            }
        }
    }

    private void turns() {
        e.edge(14, "to one of its CLIENTS: the first AWAKE one behind the one that HAD it the latest, by number, round");
        String all = "told:sub0_a_0_2;sub1_a_0_2;sub2_a_0_2;sub3_a_0_2;sub4_a_0_2;sub5_a_0_2; row:a ";
        Run run = e.run(all + "wake(5,0,9) wake(4,0,9) wake(3,0,9) wake(2,0,9) wake(1,0,9) wake(0,0,9)");
        for (int n = 0; n < 13; n++) {
            run.then("say(3,0,1,0,0)=1 had(2)=" + n % 6);
        }
        for (int c = 0; c < 6; c++) {
            run.then("client(" + c + ",6)=" + (c == 0 ? 3 : 2));
        }
        e.run(all + "wake(2,0,9) wake(4,0,9) say(2,0,1,0,0) had(2)=2 say(2,0,1,0,0) had(2)=4 say(2,0,1,0,0) had(2)=2 wake(3,0,9) say(2,0,1,0,0) had(2)=3"
            + " say(2,0,1,0,0) had(2)=4 wake(0,0,9) wake(5,0,9) say(2,0,1,0,0) had(2)=5 say(2,0,1,0,0) had(2)=0 say(2,0,1,0,0) had(2)=2");
        e.run(all + "wake(1,0,9) wake(0,0,9) say(0,0,1,0,0) had(2)=0 sleep(0,0) say(1,0,1,0,0) had(2)=1 wake(0,0,9) say(1,0,1,0,0) had(2)=0");
        e.run("told:sub0_a_0_1;sub5_a_0_1; wake(0,0,9) wake(5,0,9) row:a say(0,0,1,0,0) had(1)=0 say(0,0,1,0,0) had(1)=5 say(0,0,1,0,0) had(1)=0");
        // Turns of two shares go on apart.
        e.run("told:sub0_a_0_1;sub1_a_0_1;sub0_a_0_2;sub1_a_0_2; wake(0,0,9) wake(1,0,9) row:a say(0,0,1,0,0)=2 had(1)=0 had(2)=0 leave(0,2)=1"
            + " say(0,0,1,0,0)=2 had(1)=1 had(2)=1 say(0,0,1,0,0) had(1)=0 had(2)=1");
    }

    private void turnsOfSleepers() {
        e.edge(14, "is none AWAKE the first ASLEEP one so: it HAD it then;");
        String three = "told:sub0_a_1_1;sub2_a_1_1;sub4_a_1_1; wake(1,1,9) row:a ";
        e.run(three + "say(1,0,1,1,0)=1 had(1)=0 say(1,0,1,1,0) had(1)=2 say(1,0,1,1,0) had(1)=4 say(1,0,1,1,0) had(1)=0 client(0,5)=2 client(2,5)=1 client(4,5)=1");
        e.run(three + "wake(4,0,9) say(1,0,1,1,0) had(1)=4 say(1,0,1,1,0) had(1)=4 sleep(4,0) say(1,0,1,1,0) had(1)=0 wake(2,0,9) say(1,0,1,1,0) had(1)=2"
            + " sleep(2,0) say(1,0,1,1,0) had(1)=4");
        // An awake one is ahead of every sleeper, also of those behind the latest; one that is no member is passed over.
        e.run(three + "say(1,0,1,1,0) had(1)=0 wake(0,0,9) say(1,0,1,1,0) had(1)=0 client(2,5)=0 client(0,4)=2");
        e.run("told:sub0_a_0_1; wake(1,1,9) row:a say(1,0,1,1,0)=1 had(1)=0 rule(3)=1 rule(2)=1");
    }

    private void round() {
        e.edge(14, "(that itself last; is there none: from CLIENT 0 on),");
        e.run("told:sub0_a_0_1;sub5_a_0_1; wake(0,0,9) wake(5,0,9) row:a say(5,0,1,0,0) had(1)=0");
        e.run("told:sub3_a_0_1;sub5_a_0_1; wake(5,0,9) row:a 2*say(5,0,1,0,0) had(1)=5 wake(3,0,9) say(5,0,1,0,0) had(1)=3 sleep(5,0) say(3,0,1,0,0) had(1)=3");
        e.run("told:sub0_a_0_1; wake(0,0,9) row:a 3*say(0,0,1,0,0)=1 had(1)=0 client(0,6)=3");
        e.run("told:sub5_a_0_1; wake(5,0,9) row:a 3*say(5,0,1,0,0)=1 had(1)=5 client(5,6)=3");
        // One that HAD it and left is still the one behind whom the turn goes on.
        e.run("told:sub0_a_0_1;sub2_a_0_1;sub4_a_0_1; wake(0,0,9) wake(2,0,9) wake(4,0,9) row:a 2*say(0,0,1,0,0) had(1)=2 leave(2,1) say(0,0,1,0,0) had(1)=4");
    }

    private void promises() {
        e.edge(14, "by the lesser of its PROMISE and that of its SUBSCRIPTION.");
        for (int said = 0; said <= 2; said++) {
            for (int its = 0; its <= 2; its++) {
                e.run("wake(0,1,9) wake(1,1,9) row:a subscribe(0," + its + ",1) subscribe(1," + (2 - its) + ",1) row:+ subscribe(0,"
                    + (2 - its) + ",2) row:a say(1,0,5," + said + ",0)=2 line(0,0,0,3)=" + Math.min(said, its)
                    + " say(1,0,5," + said + ",0)=2 line(1,0,0,3)=" + Math.min(said, 2 - its));
            }
        }
    }
}
