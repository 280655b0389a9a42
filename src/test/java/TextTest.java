/** Promises 2 to 5: the tape, the text that it tells, and its first fault. */
public final class TextTest {
    private static final Due due = new Due("TextTest");

    public static void main(String[] args) {
        feed();
        end();
        blanks();
        tokensThatAreNone();
        tokensThatCannotStandThere();
        numbersOutOfBounds();
        twice();
        tooMany();
        leastPlaceFirst();
        whatIsTold();
        inPlaceOfAll();
        oneBehindTheOther();
        faultChangesNothing();
        due.finish();
    }

    private static void feed() {
        WildLevels x = new WildLevels();
        due.is("feed(0)", x.feed(0), 1);
        due.is("feed(127)", x.feed(127), 2);
        due.is("feed(-1)", x.feed(-1), -1);
        due.is("feed(128)", x.feed(128), -1);
        due.is("rule(9)", x.rule(9), 2);
        for (int n = 3; n <= 200; n++) {
            due.is("feed, byte " + n, x.feed(' '), n);
        }
        due.is("feed, byte 201", x.feed(' '), -3);
        due.is("feed(-1) when full", x.feed(-1), -1);
        due.is("rule(9) when full", x.rule(9), 200);
    }

    private static void end() {
        WildLevels x = Due.type(new WildLevels(), "sub9");
        due.is("end(-1)", x.end(-1), -1);
        due.is("end(5)", x.end(5), -1);
        due.is("end(4)", x.end(4), 4);
        due.is("end(3)", x.end(3), 4);
        due.is("rule(9)", x.rule(9), 3);
        due.is("end(4) of 3", x.end(4), -1);
        Due.type(x, "1 a 0 0;");
        due.is("text() of what was left and fed", x.text(), 1);
        due.is("end(0) of none", x.end(0), 0);
        due.is("end(1) of none", x.end(1), -1);
    }

    /** The answer and the fault of one text; the tape is empty then. */
    private static void reads(String text, int answer, int fault) {
        WildLevels x = Due.type(new WildLevels(), text);
        due.is("text() of '" + text + "'", x.text(), answer);
        due.is("fault() of '" + text + "'", x.fault(), fault);
        due.is("rule(9) behind '" + text + "'", x.rule(9), 0);
    }

    private static void faulty(String text, int place, int fault) {
        reads(text, -10 - place, fault);
    }

    private static void blanks() {
        reads("", 0, 0);
        reads("     ", 0, 0);
        reads("sub0a 0 0;", 1, 0);
        reads("sub0a/b/+/#0 0;kept a/z1 2;", 2, 0);
        reads("  sub   0   a  /  #   2   3  ;  kept   b   9   0   ;  ", 2, 0);
        reads("sub 00 a 02 03;kept a 01 00;", 2, 0);
        reads("sub0+/+/+/+ 0 0;sub0# 0 0;sub0+/# 0 0;", 3, 0);
    }

    private static void tokensThatAreNone() {
        faulty("A", 0, 1);
        faulty("  ~", 2, 1);
        faulty("sub0\ta 0 0;", 4, 1);
        faulty("sub0 a 0 0\n;", 10, 1);
        faulty("sub0 a 0 0;{", 11, 1);
        faulty("sub0 a 0 0;`", 11, 1);
        faulty("sub 000 a 0 0;", 4, 1);
        faulty("sub0 a 0 0123;", 9, 1);
        faulty("100", 0, 1);
        faulty("kept 111", 5, 1);
        faulty("sub0 a:0 0;", 6, 1);
        faulty("sub0 a 0 0\u0000;", 10, 1);
    }

    private static void tokensThatCannotStandThere() {
        faulty("su 0 a 0 0;", 0, 2);
        faulty("tub 0 a 0 0;", 0, 2);
        faulty("suc 0 a 0 0;", 0, 2);
        faulty("wept a 1 0;", 0, 2);
        faulty("subs 0 a 0 0;", 0, 2);
        faulty("suba 0 0;", 0, 2);
        faulty(" keep a 1 0;", 1, 2);
        faulty("7", 0, 2);
        faulty(";", 0, 2);
        faulty("sub0 a 0 0;;", 11, 2);
        faulty("sub a 0 0 0;", 4, 2);
        faulty("sub0 1 0 0;", 5, 2);
        faulty("sub0 ab 0 0;", 5, 2);
        faulty("sub0 a/bc 0 0;", 7, 2);
        faulty("sub0 a b 0 0;", 7, 2);
        faulty("sub0 a/ 0 0;", 8, 2);
        faulty("sub0 a//b 0 0;", 7, 2);
        faulty("sub0 /a 0 0;", 5, 2);
        faulty("sub0 a/b/c/d/e 0 0;", 12, 2);
        faulty("sub0 +/+/+/#/ 0 0;", 12, 2);
        faulty("sub0 #/a 0 0;", 6, 2);
        faulty("sub0 a#0 0;", 6, 2);
        faulty("sub0 a 0;", 8, 2);
        faulty("sub0 a;", 6, 2);
        faulty("sub0 a 0 0 0;", 11, 2);
        faulty("sub0 a 0 0 sub", 11, 2);
        faulty("kept + 1 0;", 5, 2);
        faulty("kept # 1 0;", 5, 2);
        faulty("kept a/# 1 0;", 7, 2);
        faulty("kept a/+/b 1 0;", 7, 2);
        faulty("kept a/b/c/d/e 1 0;", 12, 2);
        faulty("kept a 1 0 0;", 11, 2);
        faulty("kept a 1;", 8, 2);
        faulty("kept 1 a 0;", 5, 2);
        faulty("sub", 3, 2);
        faulty("sub  ", 5, 2);
        faulty("sub0", 4, 2);
        faulty("sub0 a", 6, 2);
        faulty("sub0 a/", 7, 2);
        faulty("sub0 a 0", 8, 2);
        faulty("sub0 a 0 0", 10, 2);
        faulty("kept a 1 0  ", 12, 2);
        faulty("sub0 a 0 0;kept", 15, 2);
    }

    private static void numbersOutOfBounds() {
        faulty("sub6 a 0 0;", 3, 3);
        faulty("sub 10 a 0 0;", 4, 3);
        faulty("sub5 a 3 0;", 7, 3);
        faulty("sub5 a 2 4;", 9, 3);
        faulty("sub5 a 2 10;", 9, 3);
        faulty("kept a 0 1;", 7, 3);
        faulty("kept a 00 1;", 7, 3);
        faulty("kept a 99 3;", 10, 3);
        reads("sub5 a 2 3;kept a 99 2;kept b 1 0;", 3, 0);
    }

    private static void twice() {
        faulty("sub0 a 0 0;sub0 a 1 0;", 21, 4);
        faulty("sub0 a/# 0 2;sub0 a/# 0 2 ;", 26, 4);
        reads("sub0 a 0 0;sub0 a 0 1;sub1 a 0 0;sub0 a/a 0 0;sub0 + 0 0;", 5, 0);
        faulty("kept a 1 0;kept b 1 0;kept a 2 1;", 32, 4);
    }

    private static String lines(String ahead, String letters, String behind) {
        StringBuilder text = new StringBuilder();
        for (char letter : letters.toCharArray()) {
            text.append(ahead).append(letter).append(behind);
        }
        return text.toString();
    }

    private static void tooMany() {
        String six = lines("sub2 ", "abcdef", " 0 0;");
        reads(six, 6, 0);
        reads(six + "sub3 a 0 0;", 7, 0);
        faulty(six + "sub2 g 0 0;", 76, 5);
        faulty(six + "sub2 a 0 0;", 76, 4);
        String twelve = lines("kept ", "abcdefghijkl", " 1 0;");
        reads(twelve, 12, 0);
        faulty(twelve + "kept m 1 0;", 142, 5);
        faulty(twelve + "kept l 1 0;", 142, 4);
    }

    private static void leastPlaceFirst() {
        faulty("sub9 ab 100 ~", 3, 3);
        faulty("sub0 ab 100 ~", 5, 2);
        faulty("sub0 a 100 ~", 7, 1);
        faulty("sub0 a 0 0;sub0 a 0 0;~", 21, 4);
        faulty("sub0 a 0 9;sub0 a 0 9;", 9, 3);
        faulty("sub0 a 0 0;sub0 a 0 0", 21, 2);
        faulty("subs ~", 0, 2);
    }

    private static void whatIsTold() {
        WildLevels x = Due.told("kept b 7 1;sub3 a/+/# 2 1;sub1 c 0 0;sub3 d 1 0;kept a/z 99 2;");
        due.is("rule(0)", x.rule(0), 0);
        due.is("rule(1)", x.rule(1), 2);
        due.is("rule(6)", x.rule(6), 2);
        due.is("rule(7)", x.rule(7), 1);
        int[] stages = {0, 2, 0, 2, 0, 0};
        for (int c = 0; c < 6; c++) {
            due.is("client(" + c + ", 0)", x.client(c, 0), stages[c]);
        }
        due.is("client(3, 1)", x.client(3, 1), 99);
        due.is("client(3, 2)", x.client(3, 2), 99);
        due.is("client(3, 3)", x.client(3, 3), 2);
        due.is("client(1, 3)", x.client(1, 3), 1);
        int[] first = {3, 2, 1, -4, 1, 27, 28, 0};
        for (int what = 0; what < 8; what++) {
            due.is("subscription(3, 0, " + what + ")", x.subscription(3, 0, what), first[what]);
        }
        due.is("subscription(3, 1, 4)", x.subscription(3, 1, 4), 4);
        int[] kept = {2, 99, 2, 1, 1, 26, 0, 0};
        for (int what = 0; what < 8; what++) {
            due.is("kept(1, " + what + ")", x.kept(1, what), kept[what]);
        }
        due.is("kept(0, 3)", x.kept(0, 3), 0);
        x.tick(50);
        x.tick(48);
        due.is("client(3, 0) at 98", x.client(3, 0), 2);
        x.tick(1);
        due.is("client(3, 0) at 99", x.client(3, 0), 0);
        due.is("rule(7) at 99", x.rule(7), 0);
    }

    private static void inPlaceOfAll() {
        WildLevels x = Due.row(new WildLevels(), "a");
        x.wake(0, 1, 5);
        x.wake(1, 1, 9);
        x.subscribe(0, 1, 0);
        x.subscribe(0, 1, 1);
        x.say(0, 0, 5, 1, 1);
        x.carry(0, 0, 0);
        x.carry(0, 1, 0);
        x.will(1, 5, 0, 0, 4);
        x.sleep(1, 1);
        x.keep(0);
        x.keep(1);
        x.tick(2);
        due.is("text() of nothing", x.text(), 0);
        for (int what = 0; what <= 10; what++) {
            due.is("rule(" + what + ") behind an empty text", x.rule(what), 0);
        }
        due.is("client(0, 0)", x.client(0, 0), 0);
        due.is("client(0, 12)", x.client(0, 12), 0);
        due.is("took(0, 0, 0)", x.took(0, 0, 0), -4);
        due.is("client(1, 11)", x.client(1, 11), -4);
        due.is("back(0)", x.back(0), -2);
        due.is("back(1)", x.back(1), -2);
        due.is("tick(2) says no old will", x.tick(2), 0);
        Due.type(x, "sub0 a 0 1;");
        due.is("text()", x.text(), 1);
        Due.row(x, "a");
        due.is("had(1) of a share that is new", x.had(1), -4);
    }

    /** A text knows nothing of those ahead of it, be they taken or faulty. */
    private static void oneBehindTheOther() {
        WildLevels x = Due.told("sub0 a 0 0;sub1 a 0 1;kept a 1 0;kept b 2 0;");
        Due.type(x, "sub0 b 0 0;sub2 b 0 1;kept c 3 0;").text();
        Due.type(x, "sub3 c 0 0;kept d 4 0;~").text();
        due.is("rule(1)", x.rule(1), 1);
        due.is("rule(6)", x.rule(6), 1);
        due.is("kept(0, 1)", x.kept(0, 1), 3);
        due.is("kept(0, 3)", x.kept(0, 3), 0);
        int[] subscriptions = {1, -4, 1, -4, -4, -4};
        for (int c = 0; c < 6; c++) {
            due.is("client(" + c + ", 3)", x.client(c, 3), subscriptions[c]);
        }
        due.is("subscription(0, 0, 4)", x.subscription(0, 0, 4), 2);
        Due.type(x, "sub3 c 0 0;sub0 b 0 0;kept d 4 0;");
        due.is("text()", x.text(), 3);
        due.is("client(2, 0)", x.client(2, 0), 0);
        due.is("rule(7)", x.rule(7), 0);
    }

    private static void faultChangesNothing() {
        WildLevels x = Due.told("sub0 a 1 0;kept a 5 1;");
        x.keep(1);
        x.tick(3);
        Due.row(x, "b/c");
        Due.type(x, "sub1 b 0 0;kept b 1 0;oh");
        due.is("text()", x.text(), -32);
        due.is("fault()", x.fault(), 2);
        due.is("rule(0)", x.rule(0), 3);
        due.is("rule(6)", x.rule(6), 1);
        due.is("rule(8)", x.rule(8), 2);
        due.is("rule(9)", x.rule(9), 0);
        due.is("rule(10)", x.rule(10), 1);
        due.is("client(1, 0)", x.client(1, 0), 0);
        due.is("client(0, 3)", x.client(0, 3), 1);
        due.is("text() of what is taken", x.text(), 0);
        due.is("fault() behind it", x.fault(), 0);
    }
}
