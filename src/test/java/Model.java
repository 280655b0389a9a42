import java.util.ArrayList;
import java.util.HashMap;
import java.util.LinkedHashMap;
import java.util.List;
import java.util.Map;
import java.util.TreeMap;
import java.util.TreeSet;

/**
 * The document told a second time, with lists, maps and texts in place of tables, for ModelTest:
 * what the class and this one answer must be the same. It shares no code with the class.
 */
final class Model {
    static final int BAD = -1, STATE = -2, FULL = -3, NONE = -4;

    private record Letter(int number, int value) { }

    private record Packet(String kind, int number, Letter letter, int promise, boolean asKept) { }

    private record Sub(String filter, int promise, int group) { }

    private record Stored(Letter letter, int promise) { }

    private record Taken(Letter letter, int promise, boolean asKept) { }

    private record LastWill(String topic, int value, int promise, boolean keep, int delay) { }

    private record Due(LastWill will, int clock) { }

    private static final List<String> KINDS = List.of("OUT", "GOT", "HAD", "FREE", "DONE");

    private static final class Mail {
        final Letter letter;
        final int promise;
        final boolean asKept;
        int number;
        boolean freed;

        Mail(Letter letter, int promise, boolean asKept) {
            this.letter = letter;
            this.promise = promise;
            this.asKept = asKept;
        }

        Mail copy() {
            Mail m = new Mail(letter, promise, asKept);
            m.number = number;
            m.freed = freed;
            return m;
        }
    }

    private static final class Session {
        boolean awake;
        int life;
        int ends;
        int numbers;
        List<Sub> subs = new ArrayList<>();
        Map<Integer, String> aliases = new HashMap<>();
        List<Mail> flight = new ArrayList<>();
        List<Mail> queue = new ArrayList<>();
        List<Packet> down = new ArrayList<>();
        List<Packet> up = new ArrayList<>();
        TreeSet<Integer> known = new TreeSet<>();
        LastWill will;

        Session copy() {
            Session s = new Session();
            s.awake = awake;
            s.life = life;
            s.ends = ends;
            s.numbers = numbers;
            s.subs.addAll(subs);
            s.aliases.putAll(aliases);
            flight.forEach(m -> s.flight.add(m.copy()));
            queue.forEach(m -> s.queue.add(m.copy()));
            s.down.addAll(down);
            s.up.addAll(up);
            s.known.addAll(known);
            s.will = will;
            return s;
        }
    }

    private static final class All {
        int clock;
        int letters;
        int went;
        int lost;
        int taken;
        int off;
        LinkedHashMap<String, Stored> kept = new LinkedHashMap<>();
        Session[] sessions = new Session[6];
        Due[] due = new Due[6];
        List<List<Taken>> took = new ArrayList<>();
        Map<String, Integer> had = new HashMap<>();

        All() {
            for (int c = 0; c < 6; c++) {
                took.add(new ArrayList<>());
            }
        }

        All copy() {
            All a = new All();
            a.clock = clock;
            a.letters = letters;
            a.went = went;
            a.lost = lost;
            a.taken = taken;
            a.off = off;
            a.kept.putAll(kept);
            for (int c = 0; c < 6; c++) {
                a.sessions[c] = sessions[c] == null ? null : sessions[c].copy();
                a.due[c] = due[c];
                a.took.get(c).addAll(took.get(c));
            }
            a.had.putAll(had);
            return a;
        }
    }

    private String tape = "";
    private String row = "";
    private int fault;
    private All all = new All();
    private final All[] images = new All[2];

    // A filter is a text with one sign a level: a to z, then { for ANY and | for REST, which sort behind z.

    private static boolean topic(String s) {
        return s.matches("[a-z]{1,4}");
    }

    private static boolean matches(String filter, String topic) {
        StringBuilder pattern = new StringBuilder();
        for (char sign : filter.toCharArray()) {
            pattern.append(sign == '{' ? "[a-z]" : sign == '|' ? "[a-z]*" : "" + sign);
        }
        return topic.matches(pattern.toString());
    }

    private static boolean in(int x, int a, int b) {
        return a <= x && x <= b;
    }

    int feed(int c) {
        if (!in(c, 0, 127)) return BAD;
        if (tape.length() == 200) return FULL;
        tape += (char) c;
        return tape.length();
    }

    int end(int n) {
        if (!in(n, 0, tape.length())) return BAD;
        int had = tape.length();
        tape = tape.substring(0, n);
        return had;
    }

    int fault() {
        return fault;
    }

    int text() {
        String source = tape;
        tape = "";
        ModelText told = new ModelText(source);
        fault = told.fault;
        if (fault != 0) return -10 - told.place;
        all = new All();
        images[0] = null;
        images[1] = null;
        row = "";
        for (ModelText.Line line : told.lines) {
            if (line.client() < 0) {
                all.kept.put(line.path(), new Stored(new Letter(all.letters++, line.value()), line.promise()));
            } else {
                Session s = all.sessions[line.client()];
                if (s == null) {
                    s = new Session();
                    s.life = 99;
                    s.ends = 99;
                    all.sessions[line.client()] = s;
                }
                s.subs.add(new Sub(line.path(), line.promise(), line.group()));
            }
        }
        return told.lines.size();
    }

    int level(int x) {
        if (!in(x, 1, 28)) return BAD;
        if (row.endsWith("|")) return STATE;
        if (row.length() == 4) return FULL;
        row += (char) ('a' + x - 1);
        return row.length();
    }

    int top() {
        int had = row.length();
        row = "";
        return had;
    }

    private boolean awake(int c) {
        return all.sessions[c] != null && all.sessions[c].awake;
    }

    int wake(int c, int clean, int life) {
        if (!in(c, 0, 5) || !in(clean, 0, 1) || !in(life, 0, 99)) return BAD;
        if (awake(c)) return STATE;
        boolean on = clean == 0 && all.sessions[c] != null;
        if (!on) {
            all.sessions[c] = new Session();
        }
        prune();
        Session s = all.sessions[c];
        s.awake = true;
        s.life = life;
        s.will = null;
        s.down.clear();
        s.up.clear();
        all.due[c] = null;
        resend(s);
        pump(s);
        return on ? 1 : 0;
    }

    int sleep(int c, int how) {
        if (!in(c, 0, 5) || !in(how, 0, 1)) return BAD;
        if (!awake(c)) return STATE;
        Session s = all.sessions[c];
        s.awake = false;
        s.down.clear();
        s.up.clear();
        s.ends = all.clock + s.life;
        LastWill w = s.will;
        s.will = null;
        int goes = 0;
        if (how == 1 && w != null) {
            int wait = Math.min(w.delay, s.life);
            if (wait == 0) {
                goes = speak(w.topic, w.value, w.promise, w.keep);
            } else {
                all.due[c] = new Due(w, all.clock + wait);
            }
        }
        if (s.life == 0) {
            all.sessions[c] = null;
            prune();
        }
        return goes;
    }

    int will(int c, int value, int promise, int keep, int delay) {
        if (!in(c, 0, 5) || !in(value, 0, 99) || !in(promise, 0, 2) || !in(keep, 0, 1) || !in(delay, 0, 50)) return BAD;
        if (!awake(c) || !topic(row)) return STATE;
        Session s = all.sessions[c];
        int had = s.will == null ? 0 : 1;
        s.will = new LastWill(row, value, promise, keep == 1, delay);
        return had;
    }

    int subscribe(int c, int promise, int group) {
        if (!in(c, 0, 5) || !in(promise, 0, 2) || !in(group, 0, 3)) return BAD;
        if (!awake(c) || row.isEmpty()) return STATE;
        Session s = all.sessions[c];
        Sub fresh = new Sub(row, promise, group);
        int at = place(s, row, group);
        if (at >= 0) {
            s.subs.set(at, fresh);
        } else if (s.subs.size() == 6) {
            return FULL;
        } else {
            s.subs.add(fresh);
        }
        int count = 0;
        if (group == 0) {
            for (Map.Entry<String, Stored> e : all.kept.entrySet()) {
                if (matches(row, e.getKey())) {
                    go(s, e.getValue().letter, Math.min(promise, e.getValue().promise), true);
                    count++;
                }
            }
        }
        return count;
    }

    private static int place(Session s, String filter, int group) {
        for (int i = 0; i < s.subs.size(); i++) {
            if (s.subs.get(i).filter.equals(filter) && s.subs.get(i).group == group) return i;
        }
        return -1;
    }

    int leave(int c, int group) {
        if (!in(c, 0, 5) || !in(group, 0, 3)) return BAD;
        if (!awake(c)) return STATE;
        Session s = all.sessions[c];
        int at = place(s, row, group);
        if (at < 0) return NONE;
        s.subs.remove(at);
        prune();
        return s.subs.size();
    }

    int alias(int c, int k) {
        if (!in(c, 0, 5) || !in(k, 1, 4)) return BAD;
        if (!awake(c) || !topic(row)) return STATE;
        return all.sessions[c].aliases.put(k, row) == null ? 0 : 1;
    }

    int say(int c, int k, int value, int promise, int keep) {
        if (!in(c, 0, 5) || !in(k, 0, 4) || !in(value, 0, 99) || !in(promise, 0, 2) || !in(keep, 0, 1)) return BAD;
        if (!awake(c)) return STATE;
        String about = k == 0 ? row : all.sessions[c].aliases.getOrDefault(k, "");
        if (!topic(about)) return STATE;
        return speak(about, value, promise, keep == 1);
    }

    private int speak(String topic, int value, int promise, boolean keep) {
        Letter letter = new Letter(all.letters++, value);
        if (keep) {
            all.kept.remove(topic);
            if (value != 0) all.kept.put(topic, new Stored(letter, promise));
            if (all.kept.size() == 13) all.kept.remove(all.kept.keySet().iterator().next());
        }
        int goes = 0;
        for (Session s : all.sessions) {
            if (s == null) continue;
            int best = s.subs.stream().filter(b -> b.group == 0 && matches(b.filter, topic))
                .mapToInt(Sub::promise).max().orElse(-1);
            if (best >= 0) {
                go(s, letter, Math.min(best, promise), false);
                goes++;
            }
        }
        for (Map.Entry<String, TreeMap<Integer, Integer>> share : shares().entrySet()) {
            if (!matches(share.getKey().substring(1), topic)) continue;
            int c = turn(share.getKey(), share.getValue());
            all.had.put(share.getKey(), c);
            go(all.sessions[c], letter, Math.min(promise, share.getValue().get(c)), false);
            goes++;
        }
        return goes;
    }

    /** By group and filter, in order: the promises of the members by client. */
    private TreeMap<String, TreeMap<Integer, Integer>> shares() {
        TreeMap<String, TreeMap<Integer, Integer>> shares = new TreeMap<>();
        for (int c = 0; c < 6; c++) {
            if (all.sessions[c] == null) continue;
            for (Sub b : all.sessions[c].subs) {
                if (b.group > 0) {
                    shares.computeIfAbsent(b.group + b.filter, key -> new TreeMap<>()).put(c, b.promise);
                }
            }
        }
        return shares;
    }

    private int turn(String share, TreeMap<Integer, Integer> members) {
        int latest = all.had.getOrDefault(share, 5);
        List<Integer> round = new ArrayList<>(members.tailMap(latest, false).keySet());
        round.addAll(members.headMap(latest, true).keySet());
        for (int c : round) {
            if (all.sessions[c].awake) return c;
        }
        return round.get(0);
    }

    private void prune() {
        all.had.keySet().retainAll(shares().keySet());
    }

    private void go(Session s, Letter letter, int promise, boolean asKept) {
        all.went++;
        Mail mail = new Mail(letter, promise, asKept);
        if (promise == 0) {
            if (s.awake) out(s, mail);
            else all.lost++;
        } else if (s.awake && s.queue.isEmpty() && s.flight.size() < 4) {
            launch(s, mail);
        } else if (s.queue.size() < 12) {
            s.queue.add(mail);
        } else {
            all.lost++;
        }
    }

    private static void launch(Session s, Mail mail) {
        mail.number = ++s.numbers;
        s.flight.add(mail);
        out(s, mail);
    }

    private static void pump(Session s) {
        while (s.flight.size() < 4 && !s.queue.isEmpty()) {
            launch(s, s.queue.remove(0));
        }
    }

    private static void out(Session s, Mail mail) {
        send(s.down, new Packet("OUT", mail.number, mail.letter, mail.promise, mail.asKept));
    }

    private static void bare(List<Packet> line, String kind, int number) {
        send(line, new Packet(kind, number, null, NONE, false));
    }

    private static void send(List<Packet> line, Packet packet) {
        if (line.size() < 16) line.add(packet);
    }

    private static int resend(Session s) {
        for (Mail mail : s.flight) {
            if (mail.freed) bare(s.down, "FREE", mail.number);
            else out(s, mail);
        }
        return s.flight.size();
    }

    int carry(int c, int way, int fate) {
        if (!in(c, 0, 5) || !in(way, 0, 1) || !in(fate, 0, 2)) return BAD;
        if (!awake(c)) return STATE;
        Session s = all.sessions[c];
        List<Packet> line = way == 0 ? s.down : s.up;
        if (line.isEmpty()) return NONE;
        Packet p = line.get(0);
        if (fate != 2) line.remove(0);
        if (fate != 1 && way == 0) arriveDown(c, s, p);
        if (fate != 1 && way == 1) arriveUp(s, p);
        return KINDS.indexOf(p.kind);
    }

    private void arriveDown(int c, Session s, Packet p) {
        if (p.kind.equals("FREE")) {
            s.known.remove(p.number);
            bare(s.up, "DONE", p.number);
            return;
        }
        if (p.promise < 2 || s.known.add(p.number)) {
            all.taken++;
            all.took.get(c).add(new Taken(p.letter, p.promise, p.asKept));
        }
        if (p.promise == 1) bare(s.up, "GOT", p.number);
        if (p.promise == 2) bare(s.up, "HAD", p.number);
    }

    private void arriveUp(Session s, Packet p) {
        for (Mail mail : s.flight) {
            if (mail.number != p.number) continue;
            if (p.kind.equals("HAD") && mail.promise == 2) {
                mail.freed = true;
                bare(s.down, "FREE", p.number);
            }
            if (p.kind.equals("GOT") && mail.promise == 1 || p.kind.equals("DONE") && mail.promise == 2 && mail.freed) {
                s.flight.remove(mail);
                all.off++;
                pump(s);
            }
            return;
        }
    }

    int again(int c) {
        if (!in(c, 0, 5)) return BAD;
        if (!awake(c)) return STATE;
        return resend(all.sessions[c]);
    }

    int tick(int n) {
        if (!in(n, 1, 50)) return BAD;
        int said = 0;
        for (int i = 0; i < n; i++) {
            all.clock++;
            for (int c = 0; c < 6; c++) {
                Due d = all.due[c];
                if (d != null && d.clock == all.clock) {
                    all.due[c] = null;
                    speak(d.will.topic, d.will.value, d.will.promise, d.will.keep);
                    said++;
                }
                Session s = all.sessions[c];
                if (s != null && !s.awake && s.ends == all.clock) {
                    all.sessions[c] = null;
                    prune();
                }
            }
        }
        return said;
    }

    int rule(int what) {
        int images = (this.images[0] == null ? 0 : 1) + (this.images[1] == null ? 0 : 1);
        int[] facts = {all.clock, all.letters, all.went, all.lost, all.taken, all.off, all.kept.size(),
            shares().size(), row.length(), tape.length(), images};
        return in(what, 0, 10) ? facts[what] : BAD;
    }

    int client(int c, int what) {
        if (!in(c, 0, 5) || !in(what, 0, 12)) return BAD;
        Session s = all.sessions[c];
        if (what == 0) return s == null ? 0 : s.awake ? 1 : 2;
        if (what == 11) return all.due[c] == null ? NONE : all.due[c].clock;
        if (what == 12) return all.took.get(c).size();
        if (s == null) return NONE;
        int[] facts = {0, s.life, s.awake ? NONE : s.ends, s.subs.size(), s.flight.size(), s.queue.size(),
            s.down.size(), s.up.size(), s.known.size(), s.aliases.size(), s.will == null ? 0 : 1};
        return facts[what];
    }

    private static int sign(String path, int i) {
        return i < path.length() ? path.charAt(i) - 'a' + 1 : 0;
    }

    int subscription(int c, int i, int what) {
        if (!in(c, 0, 5) || i < 0 || !in(what, 0, 7)) return BAD;
        if (all.sessions[c] == null || i >= all.sessions[c].subs.size()) return NONE;
        Sub b = all.sessions[c].subs.get(i);
        return switch (what) {
            case 0 -> b.filter.length();
            case 1 -> b.promise;
            case 2 -> b.group;
            case 3 -> !topic(row) ? NONE : matches(b.filter, row) ? 1 : 0;
            default -> sign(b.filter, what - 4);
        };
    }

    int kept(int i, int what) {
        if (i < 0 || !in(what, 0, 7)) return BAD;
        if (i >= all.kept.size()) return NONE;
        String topic = new ArrayList<>(all.kept.keySet()).get(i);
        Stored stored = all.kept.get(topic);
        return switch (what) {
            case 0 -> topic.length();
            case 1 -> stored.letter.value;
            case 2 -> stored.promise;
            case 3 -> stored.letter.number;
            default -> sign(topic, what - 4);
        };
    }

    int had(int group) {
        if (!in(group, 1, 3)) return BAD;
        return all.had.getOrDefault(group + row, NONE);
    }

    int line(int c, int way, int i, int what) {
        if (!in(c, 0, 5) || !in(way, 0, 1) || i < 0 || !in(what, 0, 4)) return BAD;
        Session s = all.sessions[c];
        List<Packet> line = s == null ? List.of() : way == 0 ? s.down : s.up;
        if (i >= line.size()) return NONE;
        Packet p = line.get(i);
        return switch (what) {
            case 0 -> KINDS.indexOf(p.kind);
            case 1 -> p.number;
            case 2 -> p.letter == null ? NONE : p.letter.number;
            case 3 -> p.promise;
            default -> p.letter == null ? NONE : p.letter.value;
        };
    }

    int flight(int c, int i, int what) {
        if (!in(c, 0, 5) || i < 0 || !in(what, 0, 4)) return BAD;
        if (all.sessions[c] == null) return NONE;
        List<Mail> mails = new ArrayList<>(all.sessions[c].flight);
        mails.addAll(all.sessions[c].queue);
        if (i >= mails.size()) return NONE;
        Mail m = mails.get(i);
        int[] facts = {m.number, m.letter.number, m.promise, m.letter.value, m.freed ? 1 : 0};
        return facts[what];
    }

    int took(int c, int i, int what) {
        if (!in(c, 0, 5) || i < 0 || !in(what, 0, 3)) return BAD;
        List<Taken> took = all.took.get(c);
        int first = Math.max(0, took.size() - 30);
        if (i >= took.size() - first) return NONE;
        Taken t = took.get(first + i);
        int[] facts = {t.letter.number, t.letter.value, t.promise, t.asKept ? 1 : 0};
        return facts[what];
    }

    int keep(int k) {
        if (!in(k, 0, 1)) return BAD;
        int had = images[k] == null ? 0 : 1;
        images[k] = all.copy();
        return had;
    }

    int back(int k) {
        if (!in(k, 0, 1)) return BAD;
        if (images[k] == null) return STATE;
        all = images[k].copy();
        return all.clock;
    }
}
