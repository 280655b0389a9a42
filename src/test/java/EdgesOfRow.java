import java.util.ArrayList;
import java.util.List;

/** The boundary cases of THE ROW, of filters and topics: promises 6 and 7, and matching by promise 20. */
final class EdgesOfRow {
    private static final int ANY = 27;
    private static final int REST = 28;

    private final Edges e;

    private EdgesOfRow(Edges e) {
        this.e = e;
    }

    static void play(Edges e) {
        EdgesOfRow all = new EdgesOfRow(e);
        all.level();
        all.top();
        all.filters();
        all.topics();
        all.matchesByHand();
        all.matchesAll();
    }

    private void level() {
        e.edge(6, "A LEVEL (1 to 28) comes behind THE ROW: how many it has.");
        e.run("level(0)=BAD rule(8)=0 level(1)=1 level(26)=2 level(27)=3 level(28)=4 rule(8)=4");
        e.run("level(29)=BAD level(-1)=BAD level(MIN)=BAD level(MAX)=BAD rule(8)=0");
        for (int x = 1; x <= 28; x++) {
            e.run("wake(0,1,9) level(" + x + ")=1 subscribe(0,0,1)=0 subscription(0,0,0)=1 subscription(0,0,4)=" + x);
        }
        e.run("wake(0,1,9) level(3)=1 level(1)=2 level(2)=3 level(28)=4 subscribe(0,0,1) subscription(0,0,4)=3"
            + " subscription(0,0,5)=1 subscription(0,0,6)=2 subscription(0,0,7)=28");
        e.edge(6, "BAD; STATE: REST is its last;");
        e.run("level(28)=1 level(1)=STATE level(28)=STATE level(0)=BAD level(29)=BAD rule(8)=1");
        e.run("level(1) level(28)=2 level(1)=STATE rule(8)=2");
        e.run("level(1) level(1) level(28)=3 level(27)=STATE rule(8)=3");
        e.run("level(1) level(1) level(1) level(28)=4 level(1)=STATE level(28)=STATE level(29)=BAD rule(8)=4");
        e.run("level(27)=1 level(27)=2 level(1)=3");
        e.edge(6, "FULL: 4.");
        e.run("3*level(5) level(5)=4 level(5)=FULL level(1)=FULL level(27)=FULL level(28)=FULL level(0)=BAD level(29)=BAD rule(8)=4");
        e.run("wake(0,1,9) row:a/b/c/d level(5)=FULL subscribe(0,0,0) subscription(0,0,0)=4 subscription(0,0,7)=4");
    }

    private void top() {
        e.edge(7, "THE ROW is empty: how many it had.");
        e.run("top()=0 level(1) top()=1 rule(8)=0 top()=0");
        e.run("4*level(1) top()=4 rule(8)=0 level(2)=1");
        e.run("level(28) top()=1 level(1)=1 level(28)=2 top()=2");
        e.run("wake(0,1,9) level(5) level(6) top()=2 level(7) subscribe(0,0,0)=0 subscription(0,0,4)=7 subscription(0,0,5)=0");
    }

    private void filters() {
        e.edge(6, "A FILTER has 1 to 4 LEVELS, each a letter (1 to 26), ANY (27), as the last one also REST (28);");
        e.run("wake(0,1,9) subscribe(0,0,0)=STATE level(1) subscribe(0,0,0)=0 3*level(1) subscribe(0,0,0)=0 level(1)=FULL client(0,3)=2");
        e.run("level(0)=BAD level(1)=1 level(26)=2 level(27)=3 level(28)=4");
        e.run("level(28)=1 level(29)=BAD level(28)=STATE");
        e.edge(6, "THE ROW is what is typed: LEVELS (0 to 4; none at first).");
        e.run("rule(8)=0 top()=0");
        e.run("level(1)=1 level(1)=2 level(1)=3 level(1)=4 level(1)=FULL rule(8)=4 top()=4 rule(8)=0");
    }

    private void topics() {
        e.edge(14, "a TOPIC is a FILTER of letters alone.");
        String none = " will(0,1,0,0,0)=STATE alias(0,1)=STATE say(0,0,1,0,0)=STATE subscription(0,0,3)=NONE";
        String some = " will(0,1,0,0,0)=0 alias(0,1)=0 say(0,0,1,0,0)=1 subscription(0,0,3)=1";
        String ready = "told:sub0_#_0_0; wake(0,0,9)";
        e.run(ready + none);
        for (String filter : new String[] {"+", "#", "a/+", "+/a", "a/#", "a/b/+", "a/+/b", "a/b/#", "a/b/c/+", "+/b/c/d", "a/b/c/#"}) {
            e.run(ready + " row:" + filter + none);
        }
        for (String topic : new String[] {"a", "z", "a/z", "z/a/m", "a/b/c/d", "z/z/z/z", "a/a/a/a"}) {
            e.run(ready + " row:" + topic + some);
        }
    }

    private void match(String filter, String topic, int want) {
        e.run("wake(0,1,9) row:" + filter + " subscribe(0,0,0) row:" + topic + " subscription(0,0,3)=" + want
            + " say(0,0,1,0,1)=" + want + " row:" + filter + " subscribe(0,0,0)=" + want + " subscribe(0,0,2) row:" + topic
            + " say(0,0,1,0,1)=" + 2 * want);
    }

    private void matchesByHand() {
        e.edge(20, "It MATCHES a TOPIC, if each LEVEL of it but REST is ANY or that of the TOPIC, and the TOPIC has as many,");
        match("a", "a", 1);
        match("a", "b", 0);
        match("a", "a/a", 0);
        match("a/a", "a", 0);
        match("+", "z", 1);
        match("+", "a/b", 0);
        match("+/+", "a", 0);
        match("a/+", "a/a", 1);
        match("a/b/c/d", "a/b/c/d", 1);
        match("a/b/c/d", "a/b/c", 0);
        match("a/b/c", "a/b/c/d", 0);
        match("a/b/c/d", "a/b/c/e", 0);
        match("a/b/c/d", "e/b/c/d", 0);
        match("+/+/+/+", "a/b/c/d", 1);
        match("+/+/+/+", "a/b/c", 0);
        match("+/+/+", "a/b/c/d", 0);
        e.edge(20, "by REST at least as many as are ahead of that (a, REST MATCHES a, too).");
        match("#", "a", 1);
        match("#", "a/b/c/d", 1);
        match("a/#", "a", 1);
        match("a/#", "a/a", 1);
        match("a/#", "b", 0);
        match("a/#", "b/a", 0);
        match("a/b/#", "a", 0);
        match("a/b/#", "a/b", 1);
        match("a/b/c/#", "a/b", 0);
        match("a/b/c/#", "a/b/c", 1);
        match("a/b/c/#", "a/b/c/z", 1);
        match("+/+/+/#", "a/b", 0);
        match("+/+/+/#", "a/b/c", 1);
    }

    /** Every filter of a, b, ANY, REST against every topic of a and b, in the words of the document. */
    private void matchesAll() {
        e.edge(20, "It MATCHES a TOPIC, if each LEVEL of it but REST is ANY or that of the TOPIC, and the TOPIC has as many,"
            + " by REST at least as many as are ahead of that (a, REST MATCHES a, too).");
        List<List<Integer>> filters = new ArrayList<>();
        List<List<Integer>> topics = new ArrayList<>();
        grow(new ArrayList<>(), new int[] {1, 2, ANY, REST}, filters);
        grow(new ArrayList<>(), new int[] {1, 2}, topics);
        e.is("filters", filters.size(), 160);
        e.is("topics", topics.size(), 30);
        for (int from = 0; from < filters.size(); from += 6) {
            List<List<Integer>> six = filters.subList(from, Math.min(from + 6, filters.size()));
            Run run = e.run("wake(3,1,9)");
            for (List<Integer> filter : six) {
                run.then(typed(filter) + " subscribe(3,0,0)");
            }
            for (List<Integer> topic : topics) {
                run.then(typed(topic));
                for (int i = 0; i < six.size(); i++) {
                    run.then("subscription(3," + i + ",3)=" + (matches(six.get(i), topic) ? 1 : 0));
                }
            }
        }
    }

    private static String typed(List<Integer> levels) {
        StringBuilder calls = new StringBuilder("top()");
        for (int level : levels) {
            calls.append(" level(").append(level).append(')');
        }
        return calls.toString();
    }

    private static void grow(List<Integer> path, int[] levels, List<List<Integer>> all) {
        if (path.size() == 4 || path.contains(REST)) {
            return;
        }
        for (int level : levels) {
            List<Integer> longer = new ArrayList<>(path);
            longer.add(level);
            all.add(longer);
            grow(longer, levels, all);
        }
    }

    private static boolean matches(List<Integer> filter, List<Integer> topic) {
        boolean rest = filter.contains(REST);
        int ahead = rest ? filter.size() - 1 : filter.size();
        if (rest ? topic.size() < ahead : topic.size() != ahead) {
            return false;
        }
        for (int i = 0; i < ahead; i++) {
            if (filter.get(i) != ANY && !filter.get(i).equals(topic.get(i))) {
                return false;
            }
        }
        return true;
    }
}
