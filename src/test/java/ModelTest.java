import java.util.Random;

/**
 * Promises 1 to 27 all at once: random runs of 512 calls, wrong ones among them, must be answered
 * as the Model answers them, and behind them all that there is must look the same.
 */
public final class ModelTest {
    private static final int RUNS = 1500;
    private static final int CALLS = 512;
    private static final int[] WILD = {Integer.MIN_VALUE, -1000, -1, 6, 7, 30, 100, 1 << 20, Integer.MAX_VALUE};

    private final Due due = new Due("ModelTest");
    private Random random;
    private WildLevels x;
    private Model m;
    private String now;
    private int clients;
    private int letters;

    public static void main(String[] args) {
        ModelTest test = new ModelTest();
        int wanted = args.length > 0 ? Integer.parseInt(args[0]) : RUNS;
        for (int run = 0; run < wanted; run++) {
            test.run(run);
        }
        test.due.finish();
    }

    private void run(int seed) {
        random = new Random(seed);
        x = new WildLevels();
        m = new Model();
        clients = 1 + random.nextInt(6);
        letters = 1 + random.nextInt(3);
        boolean quiet = random.nextInt(3) > 0;
        for (int n = 0; n < CALLS; n++) {
            now = "seed " + seed + " call " + n;
            call(quiet ? random.nextInt(100) : 20 + random.nextInt(80));
            if (n % 16 == 15) {
                look();
            }
        }
        look();
    }

    private void same(String call, int got, int want) {
        due.is(now + " " + call, got, want);
    }

    /** Mostly a number from a to b, at times a wrong one. */
    private int pick(int a, int b) {
        int luck = random.nextInt(120);
        if (luck == 0) return WILD[random.nextInt(WILD.length)];
        if (luck == 1) return a - 1;
        if (luck == 2) return b + 1;
        return a + random.nextInt(b - a + 1);
    }

    private int who() {
        return random.nextInt(60) == 0 ? pick(0, 5) : random.nextInt(clients);
    }

    private void call(int luck) {
        if (luck < 2) {
            text();
        } else if (luck < 4) {
            int c = pick(0, 127);
            same("feed(" + c + ")", x.feed(c), m.feed(c));
        } else if (luck < 5) {
            int n = pick(0, 20);
            same("end(" + n + ")", x.end(n), m.end(n));
        } else if (luck < 30) {
            levels();
        } else if (luck < 60) {
            clientCall(luck);
        } else if (luck < 94) {
            lineCall(luck);
        } else {
            imageOrRead(luck);
        }
    }

    private void levels() {
        if (random.nextInt(2) == 0) same("top()", x.top(), m.top());
        int count = random.nextInt(4) == 0 ? 0 : random.nextInt(3);
        for (int i = 0; i <= count; i++) {
            int level = random.nextInt(5) > 0 ? 1 + random.nextInt(letters) : pick(26, 28);
            same("level(" + level + ")", x.level(level), m.level(level));
        }
    }

    private void clientCall(int luck) {
        int c = who();
        if (luck < 34) {
            int clean = random.nextInt(4) > 0 ? 0 : pick(0, 1);
            int life = random.nextInt(2) == 0 ? pick(0, 5) : pick(0, 99);
            same("wake(" + c + "," + clean + "," + life + ")", x.wake(c, clean, life), m.wake(c, clean, life));
        } else if (luck < 36) {
            int how = pick(0, 1);
            same("sleep(" + c + "," + how + ")", x.sleep(c, how), m.sleep(c, how));
        } else if (luck < 38) {
            int v = pick(0, 99), p = pick(0, 2), k = pick(0, 1), d = random.nextInt(2) == 0 ? pick(0, 4) : pick(0, 50);
            same("will(" + c + "," + v + "," + p + "," + k + "," + d + ")", x.will(c, v, p, k, d), m.will(c, v, p, k, d));
        } else if (luck < 43) {
            int p = pick(0, 2), g = pick(0, 3);
            same("subscribe(" + c + "," + p + "," + g + ")", x.subscribe(c, p, g), m.subscribe(c, p, g));
        } else if (luck < 45) {
            int g = pick(0, 3);
            same("leave(" + c + "," + g + ")", x.leave(c, g), m.leave(c, g));
        } else if (luck < 46) {
            int k = pick(1, 4);
            same("alias(" + c + "," + k + ")", x.alias(c, k), m.alias(c, k));
        } else {
            int k = random.nextInt(4) > 0 ? 0 : pick(0, 4);
            int v = random.nextInt(6) == 0 ? 0 : pick(0, 99), p = pick(0, 2), h = pick(0, 1);
            same("say(" + c + "," + k + "," + v + "," + p + "," + h + ")", x.say(c, k, v, p, h), m.say(c, k, v, p, h));
        }
    }

    private void lineCall(int luck) {
        int c = who();
        if (luck < 88) {
            int way = pick(0, 1), fate = random.nextInt(2) == 0 ? 0 : pick(0, 2);
            same("carry(" + c + "," + way + "," + fate + ")", x.carry(c, way, fate), m.carry(c, way, fate));
        } else if (luck < 91) {
            same("again(" + c + ")", x.again(c), m.again(c));
        } else {
            int n = random.nextInt(4) > 0 ? pick(1, 3) : pick(1, 50);
            same("tick(" + n + ")", x.tick(n), m.tick(n));
        }
    }

    private void imageOrRead(int luck) {
        if (luck < 95) {
            int k = pick(0, 1);
            same("keep(" + k + ")", x.keep(k), m.keep(k));
        } else if (luck < 96) {
            int k = pick(0, 1);
            same("back(" + k + ")", x.back(k), m.back(k));
        } else {
            int c = pick(0, 5), i = pick(0, 6), w = pick(0, 12), way = pick(0, 1);
            same("rule(" + w + ")", x.rule(w), m.rule(w));
            same("client(" + c + "," + w + ")", x.client(c, w), m.client(c, w));
            same("subscription(" + c + "," + i + "," + w + ")", x.subscription(c, i, w), m.subscription(c, i, w));
            same("kept(" + i + "," + w + ")", x.kept(i, w), m.kept(i, w));
            same("had(" + i + ")", x.had(i), m.had(i));
            same("line(" + c + "," + way + "," + i + "," + w + ")", x.line(c, way, i, w), m.line(c, way, i, w));
            same("flight(" + c + "," + i + "," + w + ")", x.flight(c, i, w), m.flight(c, i, w));
            same("took(" + c + "," + i + "," + w + ")", x.took(c, i, w), m.took(c, i, w));
        }
    }

    private void text() {
        StringBuilder text = new StringBuilder();
        int lines = random.nextInt(6) == 0 ? 20 : random.nextInt(10);
        boolean crowd = random.nextInt(3) == 0;
        for (int i = 0; i < lines; i++) {
            boolean sub = crowd ? lines % 2 == 0 : random.nextInt(3) > 0;
            gap(text.append(sub ? "sub" : "kept"), sub ? 0 : 1);
            if (sub) gap(text.append(crowd ? 0 : random.nextInt(6)), 0);
            path(text, sub);
            gap(text, 0);
            gap(text.append(sub ? random.nextInt(3) : 1 + random.nextInt(99)), 1);
            text.append(random.nextInt(3));
            if (sub) gap(text, 1).append(random.nextInt(4));
            text.append(';');
        }
        if (random.nextInt(2) == 0 && text.length() > 0) {
            int at = random.nextInt(text.length());
            switch (random.nextInt(3)) {
                case 0 -> text.deleteCharAt(at);
                case 1 -> text.insert(at, "abz019/+#; A~\t".charAt(random.nextInt(14)));
                default -> text.setCharAt(at, "abz019/+#; A~\t".charAt(random.nextInt(14)));
            }
        }
        if (random.nextInt(4) > 0) same("end(0)", x.end(0), m.end(0));
        for (char sign : text.toString().toCharArray()) {
            same("feed(" + (int) sign + ")", x.feed(sign), m.feed(sign));
        }
        same("text() of " + text, x.text(), m.text());
        same("fault()", x.fault(), m.fault());
    }

    private StringBuilder gap(StringBuilder text, int least) {
        int blanks = Math.max(least, random.nextInt(8) - 5);
        return text.append(" ".repeat(blanks));
    }

    private void path(StringBuilder text, boolean sub) {
        int levels = 1 + random.nextInt(4);
        for (int i = 0; i < levels; i++) {
            if (i > 0) text.append('/');
            int luck = random.nextInt(8);
            if (sub && luck == 0 && i == levels - 1) text.append('#');
            else if (sub && luck == 1) text.append('+');
            else text.append((char) ('a' + random.nextInt(letters)));
        }
    }

    /** All that the calls of reading tell, with one step beyond each end. */
    private void look() {
        for (int what = 0; what <= 10; what++) {
            same("rule(" + what + ")", x.rule(what), m.rule(what));
        }
        for (int group = 1; group <= 3; group++) {
            same("had(" + group + ")", x.had(group), m.had(group));
        }
        for (int i = 0; i <= x.rule(6); i++) {
            for (int what = 0; what <= 7; what++) {
                same("kept(" + i + "," + what + ")", x.kept(i, what), m.kept(i, what));
            }
        }
        for (int c = 0; c < 6; c++) {
            lookAt(c);
        }
    }

    private void lookAt(int c) {
        for (int what = 0; what <= 12; what++) {
            same("client(" + c + "," + what + ")", x.client(c, what), m.client(c, what));
        }
        for (int i = 0; i <= Math.max(0, x.client(c, 3)); i++) {
            for (int what = 0; what <= 7; what++) {
                same("subscription(" + c + "," + i + "," + what + ")", x.subscription(c, i, what), m.subscription(c, i, what));
            }
        }
        for (int i = 0; i <= Math.max(0, Math.max(x.client(c, 6), x.client(c, 7))); i++) {
            for (int what = 0; what <= 4; what++) {
                same("line(" + c + ",0," + i + "," + what + ")", x.line(c, 0, i, what), m.line(c, 0, i, what));
                same("line(" + c + ",1," + i + "," + what + ")", x.line(c, 1, i, what), m.line(c, 1, i, what));
            }
        }
        for (int i = 0; i <= Math.max(0, x.client(c, 4) + x.client(c, 5)); i++) {
            for (int what = 0; what <= 4; what++) {
                same("flight(" + c + "," + i + "," + what + ")", x.flight(c, i, what), m.flight(c, i, what));
            }
        }
        for (int i = 0; i <= Math.min(30, x.client(c, 12)); i++) {
            for (int what = 0; what <= 3; what++) {
                same("took(" + c + "," + i + "," + what + ")", x.took(c, i, what), m.took(c, i, what));
            }
        }
    }
}
