/**
 * Letters by topics in a tree of levels, brought to sessions over lines that may lose or double
 * their packets. The document ../shared/DOC.md says what each call answers.
 *
 * <p>All state lies in tables of fixed size that are made with the object and used again, so that
 * no call makes anything new.
 */
public final class WildLevels {
    public static final int BAD = -1, STATE = -2, FULL = -3, NONE = -4;

    private static final int CLIENTS = 6;
    private static final int SUBSCRIPTIONS = 6;
    private static final int SHARES = CLIENTS * SUBSCRIPTIONS;
    private static final int ALIASES = 4;
    private static final int WINDOW = 4;
    private static final int QUEUE = 12;
    private static final int PACKETS = 16;
    private static final int KEPT = 12;
    private static final int TOOK = 30;
    private static final int TAPE = 200;
    private static final int IMAGES = 2;

    private static final int LAST_BYTE = 127;
    private static final int LAST_PROMISE = 2;
    private static final int LAST_GROUP = 3;
    private static final int LAST_VALUE = 99;
    private static final int LAST_LIFE = 99;
    private static final int LAST_DELAY = 50;
    private static final int LAST_TICKS = 50;

    private static final int LEVELS = 4;
    private static final int LAST_LETTER = 26;
    private static final int ANY = 27;
    private static final int REST = 28;

    private static final int NO_SESSION = 0;
    private static final int AWAKE = 1;
    private static final int ASLEEP = 2;

    private static final int OUT = 0;
    private static final int GOT = 1;
    private static final int HAD = 2;
    private static final int FREE = 3;
    private static final int DONE = 4;

    private static final int WAY_DOWN = 0;
    private static final int CARRIED = 0;
    private static final int LOST = 1;
    private static final int DOUBLED = 2;

    // Columns stand in the order in which the calls that read them number their answers.
    private static final int SUB_FILTER = 0;
    private static final int SUB_PROMISE = 1;
    private static final int SUB_GROUP = 2;
    private static final int SUB_WIDTH = 3;

    private static final int KEPT_TOPIC = 0;
    private static final int KEPT_VALUE = 1;
    private static final int KEPT_PROMISE = 2;
    private static final int KEPT_LETTER = 3;
    private static final int KEPT_WIDTH = 4;

    private static final int PACKET_KIND = 0;
    private static final int PACKET_NUMBER = 1;
    private static final int PACKET_LETTER = 2;
    private static final int PACKET_PROMISE = 3;
    private static final int PACKET_VALUE = 4;
    private static final int PACKET_AS_KEPT = 5;
    private static final int PACKET_WIDTH = 6;

    private static final int MAIL_NUMBER = 0;
    private static final int MAIL_LETTER = 1;
    private static final int MAIL_PROMISE = 2;
    private static final int MAIL_VALUE = 3;
    private static final int MAIL_FREED = 4;
    private static final int MAIL_AS_KEPT = 5;
    private static final int MAIL_WIDTH = 6;

    private static final int TOOK_LETTER = 0;
    private static final int TOOK_VALUE = 1;
    private static final int TOOK_PROMISE = 2;
    private static final int TOOK_AS_KEPT = 3;
    private static final int TOOK_WIDTH = 4;

    private static final int SHARE_KEY = 0;
    private static final int SHARE_HAD = 1;
    private static final int SHARE_WIDTH = 2;

    private final Tape tape;
    private final Reader reader;
    private final World world;
    private final World[] images;
    private final boolean[] imageMade;
    private int row;
    private int fault;

    public WildLevels() {
        reader = new Reader();
        tape = reader.tape;
        world = new World();
        images = new World[IMAGES];
        for (int k = 0; k < IMAGES; k++) {
            images[k] = new World();
        }
        imageMade = new boolean[IMAGES];
        row = Path.EMPTY;
        fault = 0;
    }

    // ---- the text, the row

    public int feed(int c) {
        if (outside(c, 0, LAST_BYTE)) {
            return BAD;
        }
        return tape.push(c) ? tape.length : FULL;
    }

    public int end(int n) {
        if (outside(n, 0, tape.length)) {
            return BAD;
        }
        int before = tape.length;
        tape.length = n;
        return before;
    }

    public int text() {
        int answer = reader.read();
        fault = reader.fault;
        tape.length = 0;
        if (fault == 0) {
            world.copyFrom(reader.draft);
            row = Path.EMPTY;
            for (int k = 0; k < IMAGES; k++) {
                imageMade[k] = false;
            }
        }
        return answer;
    }

    public int fault() {
        return fault;
    }

    public int level(int x) {
        if (outside(x, 1, REST)) {
            return BAD;
        }
        if (Path.endsInRest(row)) {
            return STATE;
        }
        int count = Path.count(row);
        if (count >= LEVELS) {
            return FULL;
        }
        row = Path.with(row, x);
        return count + 1;
    }

    public int top() {
        int before = Path.count(row);
        row = Path.EMPTY;
        return before;
    }

    // ---- clients

    public int wake(int c, int clean, int life) {
        if (noClient(c) || outside(clean, 0, 1) || outside(life, 0, LAST_LIFE)) {
            return BAD;
        }
        if (isAwake(c)) {
            return STATE;
        }
        return world.rouse(world.clients[c], clean == 1, life) ? 1 : 0;
    }

    public int sleep(int c, int how) {
        if (noClient(c) || outside(how, 0, 1)) {
            return BAD;
        }
        if (!isAwake(c)) {
            return STATE;
        }
        return world.lull(world.clients[c], how == 1);
    }

    public int will(int c, int value, int promise, int keep, int delay) {
        if (noClient(c) || badLetter(value, promise, keep) || outside(delay, 0, LAST_DELAY)) {
            return BAD;
        }
        if (!isAwake(c) || !Path.isTopic(row)) {
            return STATE;
        }
        Will will = world.clients[c].will;
        int before = will.isHeld() ? 1 : 0;
        will.write(row, value, promise, keep == 1, delay);
        return before;
    }

    public int subscribe(int c, int promise, int group) {
        if (noClient(c) || outside(promise, 0, LAST_PROMISE) || outside(group, 0, LAST_GROUP)) {
            return BAD;
        }
        if (!isAwake(c) || row == Path.EMPTY) {
            return STATE;
        }
        Client client = world.clients[c];
        if (!client.addSubscription(row, promise, group)) {
            return FULL;
        }
        return group == 0 ? world.goKept(client, row, promise) : 0;
    }

    public int leave(int c, int group) {
        if (noClient(c) || outside(group, 0, LAST_GROUP)) {
            return BAD;
        }
        if (!isAwake(c)) {
            return STATE;
        }
        Client client = world.clients[c];
        int i = client.findSubscription(row, group);
        if (i < 0) {
            return NONE;
        }
        client.subscriptions.remove(i);
        world.forgetEmptyShares();
        return client.subscriptions.size;
    }

    public int alias(int c, int k) {
        if (noClient(c) || outside(k, 1, ALIASES)) {
            return BAD;
        }
        if (!isAwake(c) || !Path.isTopic(row)) {
            return STATE;
        }
        int[] aliases = world.clients[c].aliases;
        int before = aliases[k - 1] == Path.EMPTY ? 0 : 1;
        aliases[k - 1] = row;
        return before;
    }

    public int say(int c, int k, int value, int promise, int keep) {
        if (noClient(c) || outside(k, 0, ALIASES) || badLetter(value, promise, keep)) {
            return BAD;
        }
        int topic = k == 0 ? row : world.clients[c].aliases[k - 1];
        if (!isAwake(c) || !Path.isTopic(topic)) {
            return STATE;
        }
        return world.utter(topic, value, promise, keep == 1);
    }

    // ---- lines

    public int carry(int c, int way, int fate) {
        if (noClient(c) || outside(way, 0, 1) || outside(fate, CARRIED, DOUBLED)) {
            return BAD;
        }
        if (!isAwake(c)) {
            return STATE;
        }
        Client client = world.clients[c];
        Rows packets = client.packets(way);
        if (packets.size == 0) {
            return NONE;
        }
        int kind = packets.cell(0, PACKET_KIND);
        if (fate != LOST) {
            client.carryFirst(way);
        }
        if (fate != DOUBLED) {
            packets.remove(0);
        }
        return kind;
    }

    public int again(int c) {
        if (noClient(c)) {
            return BAD;
        }
        if (!isAwake(c)) {
            return STATE;
        }
        return world.clients[c].sendAgain();
    }

    public int tick(int n) {
        if (outside(n, 1, LAST_TICKS)) {
            return BAD;
        }
        int said = 0;
        for (int i = 0; i < n; i++) {
            said += world.passTick();
        }
        return said;
    }

    // ---- what there is

    public int rule(int what) {
        switch (what) {
            case 0:
                return world.clock;
            case 1:
                return world.letters;
            case 2:
            case 3:
            case 4:
            case 5:
                return world.total(what);
            case 6:
                return world.kept.size;
            case 7:
                return world.countShares();
            case 8:
                return Path.count(row);
            case 9:
                return tape.length;
            case 10:
                return countImages();
            default:
                return BAD;
        }
    }

    public int client(int c, int what) {
        if (noClient(c) || outside(what, 0, 12)) {
            return BAD;
        }
        Client client = world.clients[c];
        switch (what) {
            case 0:
                return client.stage;
            case 11:
                return client.will.dueClock();
            case 12:
                return client.taken;
            default:
                return client.stage == NO_SESSION ? NONE : client.sessionFact(what);
        }
    }

    public int subscription(int c, int i, int what) {
        if (noClient(c) || i < 0 || outside(what, 0, 7)) {
            return BAD;
        }
        Rows rows = world.clients[c].subscriptions;
        if (i >= rows.size) {
            return NONE;
        }
        int filter = rows.cell(i, SUB_FILTER);
        if (what == 3) {
            return Path.isTopic(row) ? flag(Path.matches(filter, row)) : NONE;
        }
        return what == 0 || what > 3 ? pathFact(filter, what) : rows.cell(i, what);
    }

    public int kept(int i, int what) {
        if (i < 0 || outside(what, 0, 7)) {
            return BAD;
        }
        if (i >= world.kept.size) {
            return NONE;
        }
        int topic = world.kept.cell(i, KEPT_TOPIC);
        return what == 0 || what > 3 ? pathFact(topic, what) : world.kept.cell(i, what);
    }

    public int had(int group) {
        if (outside(group, 1, LAST_GROUP)) {
            return BAD;
        }
        return world.latestOf(Path.shareKey(group, row));
    }

    public int line(int c, int way, int i, int what) {
        if (noClient(c) || outside(way, 0, 1) || i < 0 || outside(what, 0, 4)) {
            return BAD;
        }
        Rows packets = world.clients[c].packets(way);
        return i < packets.size ? packets.cell(i, what) : NONE;
    }

    public int flight(int c, int i, int what) {
        if (noClient(c) || i < 0 || outside(what, 0, 4)) {
            return BAD;
        }
        Rows mail = world.clients[c].mail;
        return i < mail.size ? mail.cell(i, what) : NONE;
    }

    public int took(int c, int i, int what) {
        if (noClient(c) || i < 0 || outside(what, 0, 3)) {
            return BAD;
        }
        Rows took = world.clients[c].took;
        return i < took.size ? took.cell(i, what) : NONE;
    }

    // ---- images

    public int keep(int k) {
        if (outside(k, 0, IMAGES - 1)) {
            return BAD;
        }
        int before = flag(imageMade[k]);
        images[k].copyFrom(world);
        imageMade[k] = true;
        return before;
    }

    public int back(int k) {
        if (outside(k, 0, IMAGES - 1)) {
            return BAD;
        }
        if (!imageMade[k]) {
            return STATE;
        }
        world.copyFrom(images[k]);
        return world.clock;
    }

    private static boolean outside(int x, int least, int most) {
        return x < least || x > most;
    }

    private static boolean noClient(int c) {
        return outside(c, 0, CLIENTS - 1);
    }

    private static boolean badLetter(int value, int promise, int keep) {
        return outside(value, 0, LAST_VALUE) || outside(promise, 0, LAST_PROMISE) || outside(keep, 0, 1);
    }

    private static int flag(boolean holds) {
        return holds ? 1 : 0;
    }

    private static int pathFact(int path, int what) {
        return what == 0 ? Path.count(path) : Path.levelAt(path, what - 4);
    }

    private boolean isAwake(int c) {
        return !noClient(c) && world.clients[c].stage == AWAKE;
    }

    private int countImages() {
        int made = 0;
        for (int k = 0; k < IMAGES; k++) {
            made += flag(imageMade[k]);
        }
        return made;
    }

    /**
     * A filter or a topic as one number: five bits a level, the first level highest, no level as 0.
     * So the lesser number is the filter that comes first in the document's order.
     */
    private static final class Path {
        private static final int EMPTY = 0;
        private static final int BITS = 5;
        private static final int ONE_LEVEL = (1 << BITS) - 1;
        private static final int ALL_BITS = BITS * LEVELS;

        static int levelAt(int path, int i) {
            if (i < 0 || i >= LEVELS) {
                return 0;
            }
            return (path >> shiftOf(i)) & ONE_LEVEL;
        }

        static int count(int path) {
            int count = 0;
            for (int i = 0; i < LEVELS; i++) {
                if (levelAt(path, i) != 0) {
                    count++;
                }
            }
            return count;
        }

        static int with(int path, int level) {
            int i = count(path);
            return i < LEVELS ? path | (level << shiftOf(i)) : path;
        }

        static boolean endsInRest(int path) {
            return levelAt(path, count(path) - 1) == REST;
        }

        static boolean isTopic(int path) {
            for (int i = 0; i < LEVELS; i++) {
                if (levelAt(path, i) > LAST_LETTER) {
                    return false;
                }
            }
            return path != EMPTY;
        }

        static boolean matches(int filter, int topic) {
            for (int i = 0; i < LEVELS; i++) {
                int wanted = levelAt(filter, i);
                int there = levelAt(topic, i);
                if (wanted == REST) {
                    return true;
                }
                if (wanted == 0 || there == 0) {
                    return wanted == there;
                }
                if (wanted != ANY && wanted != there) {
                    return false;
                }
            }
            return true;
        }

        static int shareKey(int group, int filter) {
            return (group << ALL_BITS) | filter;
        }

        static int filterOf(int shareKey) {
            return shareKey & ((1 << ALL_BITS) - 1);
        }

        static int groupOf(int shareKey) {
            return shareKey >> ALL_BITS;
        }

        private static int shiftOf(int i) {
            return BITS * (LEVELS - 1 - i);
        }
    }

    /** A table of numbers with a fixed width and a most of rows, in the order in which they came. */
    private static final class Rows {
        private final int most;
        private final int width;
        private final int[] cells;
        private int size;

        Rows(int most, int width) {
            this.most = Math.max(most, 0);
            this.width = Math.max(width, 1);
            cells = new int[this.most * this.width];
            size = 0;
        }

        void clear() {
            size = 0;
        }

        boolean isFull() {
            return size >= most;
        }

        /** The new row's place, or -1 if there is no room: then put() on it does nothing. */
        int open() {
            if (size >= most) {
                return -1;
            }
            int i = size;
            size++;
            for (int column = 0; column < width; column++) {
                cells[i * width + column] = 0;
            }
            return i;
        }

        void put(int i, int column, int value) {
            if (i >= 0 && i < size && column >= 0 && column < width) {
                cells[i * width + column] = value;
            }
        }

        int cell(int i, int column) {
            if (i < 0 || i >= size || column < 0 || column >= width) {
                return 0;
            }
            return cells[i * width + column];
        }

        /** The first row with that value, or -1, on which remove() does nothing. */
        int find(int column, int value) {
            if (column < 0 || column >= width) {
                return -1;
            }
            for (int i = 0; i < size; i++) {
                if (cells[i * width + column] == value) {
                    return i;
                }
            }
            return -1;
        }

        void remove(int i) {
            if (i < 0 || i >= size) {
                return;
            }
            System.arraycopy(cells, (i + 1) * width, cells, i * width, (size - 1 - i) * width);
            size--;
        }

        void copyFrom(Rows other) {
            if (other.width != width || other.size > most) {
                return;
            }
            System.arraycopy(other.cells, 0, cells, 0, other.size * width);
            size = other.size;
        }
    }

    /** The last letter of a client: held while it is awake, due behind a break. */
    private static final class Will {
        private static final int NO_WILL = 0;
        private static final int HELD = 1;
        private static final int DUE = 2;

        private int stage;
        private int topic;
        private int value;
        private int promise;
        private boolean keepIt;
        private int delay;
        private int dueAt;

        void write(int topic, int value, int promise, boolean keepIt, int delay) {
            stage = HELD;
            this.topic = topic;
            this.value = value;
            this.promise = promise;
            this.keepIt = keepIt;
            this.delay = delay;
        }

        boolean isHeld() {
            return stage == HELD;
        }

        int dueClock() {
            return stage == DUE ? dueAt : NONE;
        }

        void drop() {
            stage = NO_WILL;
        }

        void becomeDue(int clock, int life) {
            if (stage == HELD) {
                stage = DUE;
                dueAt = clock + Math.min(delay, life);
            }
        }

        /** Whether it is to be said at this clock; it is due no more then, so it is said once. */
        boolean comesDue(int clock) {
            if (stage != DUE || dueAt != clock) {
                return false;
            }
            stage = NO_WILL;
            return true;
        }

        void copyFrom(Will other) {
            stage = other.stage;
            topic = other.topic;
            value = other.value;
            promise = other.promise;
            keepIt = other.keepIt;
            delay = other.delay;
            dueAt = other.dueAt;
        }
    }

    /** A client with its session, if it has one, and with what it took in all its sessions. */
    private static final class Client {
        private final Rows subscriptions = new Rows(SUBSCRIPTIONS, SUB_WIDTH);
        private final int[] aliases = new int[ALIASES];
        /** The first rows are in flight, as many as flying says; behind them stands the queue. */
        private final Rows mail = new Rows(WINDOW + QUEUE, MAIL_WIDTH);
        private final Rows down = new Rows(PACKETS, PACKET_WIDTH);
        private final Rows up = new Rows(PACKETS, PACKET_WIDTH);
        /** A number is known only while it is in flight: OUT never comes behind FREE of one number. */
        private final Rows known = new Rows(WINDOW, 1);
        private final Rows took = new Rows(TOOK, TOOK_WIDTH);
        private final Will will = new Will();
        private int stage;
        private int life;
        private int endsAt;
        private int flying;
        private int lastNumber;
        private int went;
        private int lost;
        private int taken;
        private int off;

        void clear() {
            clearSession();
            will.drop();
            took.clear();
            went = 0;
            lost = 0;
            taken = 0;
            off = 0;
        }

        void clearSession() {
            stage = NO_SESSION;
            life = 0;
            endsAt = 0;
            flying = 0;
            lastNumber = 0;
            subscriptions.clear();
            for (int k = 0; k < ALIASES; k++) {
                aliases[k] = Path.EMPTY;
            }
            mail.clear();
            clearLines();
            known.clear();
        }

        void awaken(int newLife) {
            stage = AWAKE;
            life = newLife;
            clearLines();
            will.drop();
            sendAgain();
            launchQueued();
        }

        void fallAsleep(int clock) {
            stage = ASLEEP;
            endsAt = clock + life;
            clearLines();
        }

        /** A session that was told by a text: as if it had fallen asleep at clock 0. */
        void beToldAsleep() {
            stage = ASLEEP;
            life = LAST_LIFE;
            endsAt = LAST_LIFE;
        }

        void clearLines() {
            down.clear();
            up.clear();
        }

        Rows packets(int way) {
            return way == WAY_DOWN ? down : up;
        }

        int findSubscription(int filter, int group) {
            for (int i = 0; i < subscriptions.size; i++) {
                if (subscriptions.cell(i, SUB_FILTER) == filter && subscriptions.cell(i, SUB_GROUP) == group) {
                    return i;
                }
            }
            return -1;
        }

        /** False if it would be one too many. */
        boolean addSubscription(int filter, int promise, int group) {
            int i = findSubscription(filter, group);
            if (i < 0) {
                i = subscriptions.open();
                subscriptions.put(i, SUB_FILTER, filter);
                subscriptions.put(i, SUB_GROUP, group);
            }
            subscriptions.put(i, SUB_PROMISE, promise);
            return i >= 0;
        }

        /** The greatest promise of those of no group that match, or -1 if none does. */
        int greatestPromise(int topic) {
            int greatest = -1;
            for (int i = 0; i < subscriptions.size; i++) {
                if (subscriptions.cell(i, SUB_GROUP) == 0 && Path.matches(subscriptions.cell(i, SUB_FILTER), topic)) {
                    greatest = Math.max(greatest, subscriptions.cell(i, SUB_PROMISE));
                }
            }
            return greatest;
        }

        /** The place of its subscription to a share, or -1 if it is no member. */
        int findShare(int key) {
            return findSubscription(Path.filterOf(key), Path.groupOf(key));
        }

        int queued() {
            return mail.size - flying;
        }

        void receive(int letter, int value, int promise, boolean asKept) {
            went++;
            if (promise == 0) {
                receiveAtMostOnce(letter, value, asKept);
            } else if (queued() >= QUEUE) {
                lost++;
            } else {
                int i = mail.open();
                mail.put(i, MAIL_LETTER, letter);
                mail.put(i, MAIL_PROMISE, promise);
                mail.put(i, MAIL_VALUE, value);
                mail.put(i, MAIL_AS_KEPT, flag(asKept));
                launchQueued();
            }
        }

        private void receiveAtMostOnce(int letter, int value, boolean asKept) {
            if (stage != AWAKE) {
                lost++;
                return;
            }
            int i = down.open();
            down.put(i, PACKET_KIND, OUT);
            down.put(i, PACKET_LETTER, letter);
            down.put(i, PACKET_VALUE, value);
            down.put(i, PACKET_AS_KEPT, flag(asKept));
        }

        /** Called behind whatever may leave room in the window, so an awake one never waits in vain. */
        private void launchQueued() {
            if (stage != AWAKE) {
                return;
            }
            for (int i = flying; i < mail.size && i < WINDOW; i++) {
                lastNumber++;
                flying++;
                mail.put(i, MAIL_NUMBER, lastNumber);
                sendMail(i);
            }
        }

        int sendAgain() {
            for (int i = 0; i < flying; i++) {
                if (mail.cell(i, MAIL_FREED) == 1) {
                    sendBare(down, FREE, mail.cell(i, MAIL_NUMBER));
                } else {
                    sendMail(i);
                }
            }
            return flying;
        }

        private void sendMail(int m) {
            int i = down.open();
            down.put(i, PACKET_KIND, OUT);
            down.put(i, PACKET_NUMBER, mail.cell(m, MAIL_NUMBER));
            down.put(i, PACKET_LETTER, mail.cell(m, MAIL_LETTER));
            down.put(i, PACKET_PROMISE, mail.cell(m, MAIL_PROMISE));
            down.put(i, PACKET_VALUE, mail.cell(m, MAIL_VALUE));
            down.put(i, PACKET_AS_KEPT, mail.cell(m, MAIL_AS_KEPT));
        }

        /** A packet with no letter in it: what line() tells of a letter is NONE. */
        private void sendBare(Rows packets, int kind, int number) {
            int i = packets.open();
            packets.put(i, PACKET_KIND, kind);
            packets.put(i, PACKET_NUMBER, number);
            packets.put(i, PACKET_LETTER, NONE);
            packets.put(i, PACKET_PROMISE, NONE);
            packets.put(i, PACKET_VALUE, NONE);
        }

        void carryFirst(int way) {
            Rows packets = packets(way);
            int kind = packets.cell(0, PACKET_KIND);
            int number = packets.cell(0, PACKET_NUMBER);
            if (way != WAY_DOWN) {
                carryUp(kind, number);
            } else if (kind == OUT) {
                carryLetter(number);
            } else {
                known.remove(known.find(0, number));
                sendBare(up, DONE, number);
            }
        }

        private void carryLetter(int number) {
            int promise = down.cell(0, PACKET_PROMISE);
            if (promise < LAST_PROMISE) {
                takeFirst();
            } else if (known.find(0, number) < 0) {
                takeFirst();
                known.put(known.open(), 0, number);
            }
            if (promise > 0) {
                sendBare(up, promise == 1 ? GOT : HAD, number);
            }
        }

        private void takeFirst() {
            taken++;
            if (took.isFull()) {
                took.remove(0);
            }
            int i = took.open();
            took.put(i, TOOK_LETTER, down.cell(0, PACKET_LETTER));
            took.put(i, TOOK_VALUE, down.cell(0, PACKET_VALUE));
            took.put(i, TOOK_PROMISE, down.cell(0, PACKET_PROMISE));
            took.put(i, TOOK_AS_KEPT, down.cell(0, PACKET_AS_KEPT));
        }

        private void carryUp(int kind, int number) {
            int i = mail.find(MAIL_NUMBER, number);
            if (i < 0 || i >= flying) {
                return;
            }
            boolean justOnce = mail.cell(i, MAIL_PROMISE) == LAST_PROMISE;
            boolean freed = mail.cell(i, MAIL_FREED) == 1;
            if (kind == HAD && justOnce) {
                mail.put(i, MAIL_FREED, 1);
                sendBare(down, FREE, number);
            } else if ((kind == GOT && !justOnce) || (kind == DONE && freed)) {
                mail.remove(i);
                flying--;
                off++;
                launchQueued();
            }
        }

        int sessionFact(int what) {
            switch (what) {
                case 1:
                    return life;
                case 2:
                    return stage == AWAKE ? NONE : endsAt;
                case 3:
                    return subscriptions.size;
                case 4:
                    return flying;
                case 5:
                    return queued();
                case 6:
                    return down.size;
                case 7:
                    return up.size;
                case 8:
                    return known.size;
                case 9:
                    return countAliases();
                default:
                    return flag(will.isHeld());
            }
        }

        private int countAliases() {
            int count = 0;
            for (int topic : aliases) {
                count += flag(topic != Path.EMPTY);
            }
            return count;
        }

        void copyFrom(Client other) {
            subscriptions.copyFrom(other.subscriptions);
            System.arraycopy(other.aliases, 0, aliases, 0, ALIASES);
            mail.copyFrom(other.mail);
            down.copyFrom(other.down);
            up.copyFrom(other.up);
            known.copyFrom(other.known);
            took.copyFrom(other.took);
            will.copyFrom(other.will);
            stage = other.stage;
            life = other.life;
            endsAt = other.endsAt;
            flying = other.flying;
            lastNumber = other.lastNumber;
            went = other.went;
            lost = other.lost;
            taken = other.taken;
            off = other.off;
        }
    }

    /** All that an image holds: the clock, the letters, what is kept, the clients and their shares. */
    private static final class World {
        private final Client[] clients = new Client[CLIENTS];
        private final Rows kept = new Rows(KEPT, KEPT_WIDTH);
        /** Only the shares that somebody had; the others are told by the subscriptions alone. */
        private final Rows shares = new Rows(SHARES, SHARE_WIDTH);
        private int clock;
        private int letters;

        World() {
            for (int c = 0; c < CLIENTS; c++) {
                clients[c] = new Client();
            }
        }

        void clear() {
            for (int c = 0; c < CLIENTS; c++) {
                clients[c].clear();
            }
            kept.clear();
            shares.clear();
            clock = 0;
            letters = 0;
        }

        void copyFrom(World other) {
            for (int c = 0; c < CLIENTS; c++) {
                clients[c].copyFrom(other.clients[c]);
            }
            kept.copyFrom(other.kept);
            shares.copyFrom(other.shares);
            clock = other.clock;
            letters = other.letters;
        }

        /** Whether it goes on with the session that it had. */
        boolean rouse(Client client, boolean clean, int life) {
            boolean goesOn = client.stage != NO_SESSION && !clean;
            if (!goesOn) {
                endSession(client);
            }
            client.awaken(life);
            return goesOn;
        }

        /** How many times its will goes now. */
        int lull(Client client, boolean broken) {
            client.fallAsleep(clock);
            int goes = 0;
            if (!broken) {
                client.will.drop();
            }
            client.will.becomeDue(clock, client.life);
            if (client.will.comesDue(clock)) {
                goes = utter(client.will.topic, client.will.value, client.will.promise, client.will.keepIt);
            }
            if (client.life == 0) {
                endSession(client);
            }
            return goes;
        }

        private void endSession(Client client) {
            client.clearSession();
            forgetEmptyShares();
        }

        /** How many wills were said. */
        int passTick() {
            clock++;
            int said = 0;
            for (int c = 0; c < CLIENTS; c++) {
                Client client = clients[c];
                if (client.will.comesDue(clock)) {
                    utter(client.will.topic, client.will.value, client.will.promise, client.will.keepIt);
                    said++;
                }
                if (client.stage == ASLEEP && client.endsAt == clock) {
                    endSession(client);
                }
            }
            return said;
        }

        /** Says a letter: how many times it goes. */
        int utter(int topic, int value, int promise, boolean keepIt) {
            int letter = letters;
            letters++;
            if (keepIt) {
                kept.remove(kept.find(KEPT_TOPIC, topic));
            }
            if (keepIt && value > 0) {
                addKept(topic, value, promise, letter);
            }
            return goToSessions(topic, value, promise, letter) + goToShares(topic, value, promise, letter);
        }

        void addKept(int topic, int value, int promise, int letter) {
            if (kept.isFull()) {
                kept.remove(0);
            }
            int i = kept.open();
            kept.put(i, KEPT_TOPIC, topic);
            kept.put(i, KEPT_VALUE, value);
            kept.put(i, KEPT_PROMISE, promise);
            kept.put(i, KEPT_LETTER, letter);
        }

        private int goToSessions(int topic, int value, int promise, int letter) {
            int goes = 0;
            for (int c = 0; c < CLIENTS; c++) {
                int greatest = clients[c].greatestPromise(topic);
                if (greatest >= 0) {
                    clients[c].receive(letter, value, Math.min(promise, greatest), false);
                    goes++;
                }
            }
            return goes;
        }

        private int goToShares(int topic, int value, int promise, int letter) {
            int goes = 0;
            int key = shareBehind(0);
            for (int n = 0; n < SHARES && key > 0; n++) {
                if (Path.matches(Path.filterOf(key), topic)) {
                    Client member = nextMember(key);
                    int its = member.subscriptions.cell(member.findShare(key), SUB_PROMISE);
                    member.receive(letter, value, Math.min(promise, its), false);
                    goes++;
                }
                key = shareBehind(key);
            }
            return goes;
        }

        /** The first share, by group and filter, that comes behind a key; 0 if there is none. */
        private int shareBehind(int key) {
            int least = 0;
            for (int c = 0; c < CLIENTS; c++) {
                Rows rows = clients[c].subscriptions;
                for (int i = 0; i < rows.size; i++) {
                    int group = rows.cell(i, SUB_GROUP);
                    int found = Path.shareKey(group, rows.cell(i, SUB_FILTER));
                    if (group > 0 && found > key && (least == 0 || found < least)) {
                        least = found;
                    }
                }
            }
            return least;
        }

        /** The member whose turn it is, an awake one if there is one: it had it then. */
        private Client nextMember(int key) {
            int c = memberBehind(key, AWAKE);
            if (c < 0) {
                c = memberBehind(key, ASLEEP);
            }
            // A share has a member, so this is only for the machine's sake.
            c = Math.max(c, 0);
            int i = shares.find(SHARE_KEY, key);
            if (i < 0) {
                i = shares.open();
                shares.put(i, SHARE_KEY, key);
            }
            shares.put(i, SHARE_HAD, c);
            return clients[c];
        }

        private int memberBehind(int key, int stage) {
            int filter = Path.filterOf(key);
            int group = Path.groupOf(key);
            int latest = latestOf(key);
            int first = latest < 0 ? 0 : latest + 1;
            for (int n = 0; n < CLIENTS; n++) {
                int c = (first + n) % CLIENTS;
                if (clients[c].stage == stage && clients[c].findSubscription(filter, group) >= 0) {
                    return c;
                }
            }
            return -1;
        }

        int latestOf(int key) {
            int i = shares.find(SHARE_KEY, key);
            return i < 0 ? NONE : shares.cell(i, SHARE_HAD);
        }

        int countShares() {
            int count = 0;
            int key = shareBehind(0);
            for (int n = 0; n < SHARES && key > 0; n++) {
                count++;
                key = shareBehind(key);
            }
            return count;
        }

        void forgetEmptyShares() {
            for (int i = shares.size - 1; i >= 0; i--) {
                if (!hasMember(shares.cell(i, SHARE_KEY))) {
                    shares.remove(i);
                }
            }
        }

        private boolean hasMember(int key) {
            for (int c = 0; c < CLIENTS; c++) {
                if (clients[c].findShare(key) >= 0) {
                    return true;
                }
            }
            return false;
        }

        /** All kept letters that match go to a client: how many. */
        int goKept(Client client, int filter, int promise) {
            int goes = 0;
            for (int i = 0; i < kept.size; i++) {
                if (Path.matches(filter, kept.cell(i, KEPT_TOPIC))) {
                    int lesser = Math.min(promise, kept.cell(i, KEPT_PROMISE));
                    client.receive(kept.cell(i, KEPT_LETTER), kept.cell(i, KEPT_VALUE), lesser, true);
                    goes++;
                }
            }
            return goes;
        }

        /** The counts that rule() tells as 2 to 5, over all clients. */
        int total(int what) {
            int sum = 0;
            for (int c = 0; c < CLIENTS; c++) {
                Client client = clients[c];
                switch (what) {
                    case 2:
                        sum += client.went;
                        break;
                    case 3:
                        sum += client.lost;
                        break;
                    case 4:
                        sum += client.taken;
                        break;
                    default:
                        sum += client.off;
                        break;
                }
            }
            return sum;
        }
    }

    /** The bytes that were fed. */
    private static final class Tape {
        private final int[] bytes = new int[TAPE];
        private int length;

        boolean push(int c) {
            if (length < 0 || length >= TAPE) {
                return false;
            }
            bytes[length] = c;
            length++;
            return true;
        }

        /** -1 behind the end. */
        int at(int i) {
            return i >= 0 && i < length && i < TAPE ? bytes[i] : -1;
        }
    }

    /**
     * Reads its tape into a draft. One token is at hand; it is looked at, then taken, and only then
     * is the next one read, so the first fault that is met is the one whose place is least.
     */
    private static final class Reader {
        private static final int NO_TOKEN = 1;
        private static final int NOT_HERE = 2;
        private static final int OUT_OF_BOUNDS = 3;
        private static final int TWICE = 4;
        private static final int TOO_MANY = 5;

        // A sign's kind is its byte.
        private static final int THE_END = 0;
        private static final int NAME = 1;
        private static final int NUMBER = 2;

        private static final int FIGURES = 2;

        private final Tape tape = new Tape();
        private final World draft = new World();
        private int next;
        private int start;
        private int kind;
        private int number;
        private int fault;
        private int place;
        private int lines;

        /** How many lines there are, or -10 less the place of the fault. */
        int read() {
            draft.clear();
            next = 0;
            fault = 0;
            place = 0;
            lines = 0;
            advance();
            for (int n = 0; n < TAPE && fault == 0 && kind != THE_END; n++) {
                if (spells("sub")) {
                    readSubscription();
                } else if (spells("kept")) {
                    readKept();
                } else {
                    fail(NOT_HERE);
                }
            }
            return fault == 0 ? lines : -10 - place;
        }

        private void readSubscription() {
            advance();
            int c = takeNumber(0, CLIENTS - 1);
            int filter = takePath(REST);
            int promise = takeNumber(0, LAST_PROMISE);
            int group = takeNumber(0, LAST_GROUP);
            if (!isAtSemicolon() || noClient(c)) {
                return;
            }
            Client client = draft.clients[c];
            if (client.findSubscription(filter, group) >= 0) {
                fail(TWICE);
            } else if (!client.addSubscription(filter, promise, group)) {
                fail(TOO_MANY);
            } else {
                client.beToldAsleep();
                takeSemicolon();
            }
        }

        private void readKept() {
            advance();
            int topic = takePath(LAST_LETTER);
            int value = takeNumber(1, LAST_VALUE);
            int promise = takeNumber(0, LAST_PROMISE);
            if (!isAtSemicolon()) {
                return;
            }
            if (draft.kept.find(KEPT_TOPIC, topic) >= 0) {
                fail(TWICE);
            } else if (draft.kept.isFull()) {
                fail(TOO_MANY);
            } else {
                draft.addKept(topic, value, promise, draft.letters);
                draft.letters++;
                takeSemicolon();
            }
        }

        /** Behind the last level that may stand there a slash is left at hand: no number, a fault. */
        private int takePath(int lastLevel) {
            int path = Path.EMPTY;
            for (int i = 0; i < LEVELS && fault == 0; i++) {
                int level = levelAtHand();
                if (level == 0 || level > lastLevel) {
                    fail(NOT_HERE);
                    return path;
                }
                path = Path.with(path, level);
                advance();
                if (kind != '/' || level == REST || i == LEVELS - 1) {
                    return path;
                }
                advance();
            }
            return path;
        }

        /** 0 if the token at hand is no level. */
        private int levelAtHand() {
            if (kind == '+') {
                return ANY;
            }
            if (kind == '#') {
                return REST;
            }
            return kind == NAME && next - start == 1 ? tape.at(start) - 'a' + 1 : 0;
        }

        private int takeNumber(int least, int most) {
            if (fault != 0) {
                return least;
            }
            if (kind != NUMBER) {
                fail(NOT_HERE);
                return least;
            }
            if (outside(number, least, most)) {
                fail(OUT_OF_BOUNDS);
                return least;
            }
            int taken = number;
            advance();
            return taken;
        }

        private boolean isAtSemicolon() {
            if (kind != ';') {
                fail(NOT_HERE);
            }
            return fault == 0;
        }

        private void takeSemicolon() {
            lines++;
            advance();
        }

        private boolean spells(String word) {
            if (kind != NAME || next - start != word.length()) {
                return false;
            }
            for (int i = 0; i < word.length(); i++) {
                if (tape.at(start + i) != word.charAt(i)) {
                    return false;
                }
            }
            return true;
        }

        /** The first fault stays: what is met behind it is not told. */
        private void fail(int what) {
            if (fault == 0) {
                fault = what;
                place = start;
            }
        }

        private void advance() {
            if (fault != 0) {
                return;
            }
            while (next < TAPE && tape.at(next) == ' ') {
                next++;
            }
            start = next;
            int first = tape.at(start);
            if (first < 0) {
                kind = THE_END;
            } else if (isLetter(first)) {
                scanName();
            } else if (isFigure(first)) {
                scanNumber();
            } else {
                scanSign(first);
            }
        }

        private void scanName() {
            kind = NAME;
            while (next < TAPE && isLetter(tape.at(next))) {
                next++;
            }
        }

        private void scanNumber() {
            kind = NUMBER;
            number = 0;
            while (next < TAPE && isFigure(tape.at(next))) {
                number = number * 10 + tape.at(next) - '0';
                next++;
            }
            if (next - start > FIGURES) {
                fail(NO_TOKEN);
            }
        }

        private void scanSign(int sign) {
            kind = sign;
            next++;
            if (sign != '/' && sign != '+' && sign != '#' && sign != ';') {
                fail(NO_TOKEN);
            }
        }

        private static boolean isLetter(int c) {
            return c >= 'a' && c <= 'z';
        }

        private static boolean isFigure(int c) {
            return c >= '0' && c <= '9';
        }
    }
}
