/** Promises 26 and 27: images. */
public final class ImageTest {
    private static final Due due = new Due("ImageTest");

    public static void main(String[] args) {
        wrong();
        allIsBack();
        notInAnImage();
        twoImages();
        whatIsWrittenOver();
        due.finish();
    }

    private static void wrong() {
        WildLevels x = new WildLevels();
        due.is("keep(-1)", x.keep(-1), -1);
        due.is("keep(2)", x.keep(2), -1);
        due.is("back(-1)", x.back(-1), -1);
        due.is("back(2)", x.back(2), -1);
        due.is("back(0), none", x.back(0), -2);
        due.is("keep(0)", x.keep(0), 0);
        due.is("keep(0) anew", x.keep(0), 1);
        due.is("back(1), none", x.back(1), -2);
        due.is("back(0)", x.back(0), 0);
    }

    /** A state with something of everything. */
    private static WildLevels busy() {
        WildLevels x = Due.told("kept a 5 2;kept b 6 1;sub1 a/# 1 1;sub2 a/# 1 1;");
        x.tick(3);
        x.wake(0, 1, 20);
        x.wake(3, 1, 20);
        Due.row(x, "a");
        x.subscribe(0, 2, 0);
        x.alias(0, 2);
        x.will(3, 9, 1, 1, 4);
        x.sleep(3, 1);
        for (int n = 1; n <= 7; n++) {
            x.say(0, 0, n, 2, n % 2);
        }
        x.carry(0, 0, 0);
        x.carry(0, 0, 0);
        x.carry(0, 1, 0);
        x.say(0, 0, 8, 0, 0);
        x.will(0, 3, 2, 0, 1);
        return x;
    }

    private static String look(WildLevels x) {
        StringBuilder all = new StringBuilder();
        for (int what = 0; what <= 7; what++) {
            all.append(x.rule(what)).append(' ');
        }
        for (int i = 0; i < 13 * 8; i++) {
            all.append(x.kept(i / 8, i % 8)).append(' ');
        }
        for (int c = 0; c < 6; c++) {
            for (int what = 0; what <= 12; what++) {
                all.append(x.client(c, what)).append(' ');
            }
            for (int i = 0; i < 7 * 8; i++) {
                all.append(x.subscription(c, i / 8, i % 8)).append(' ');
            }
            for (int i = 0; i < 17 * 5; i++) {
                all.append(x.line(c, 0, i / 5, i % 5)).append(' ').append(x.line(c, 1, i / 5, i % 5)).append(' ');
                all.append(x.flight(c, i / 5, i % 5)).append(' ');
            }
            for (int i = 0; i < 31 * 4; i++) {
                all.append(x.took(c, i / 4, i % 4)).append(' ');
            }
        }
        Due.row(x, "a/#");
        all.append(x.had(1));
        Due.row(x, "a");
        return all.toString();
    }

    /** Goes on in a way that the whole state has a say in; answers all that was answered. */
    private static String goOn(WildLevels x) {
        StringBuilder all = new StringBuilder();
        Due.row(x, "a");
        all.append(x.say(0, 2, 50, 2, 1)).append(' ').append(x.sleep(0, 1)).append(' ').append(x.tick(2)).append(' ');
        all.append(look(x)).append(' ').append(x.wake(0, 0, 5)).append(' ').append(x.wake(1, 1, 5)).append(' ');
        all.append(x.carry(0, 0, 0)).append(x.carry(0, 0, 0)).append(x.carry(0, 1, 0)).append(x.tick(5));
        Due.row(x, "#");
        all.append(x.subscribe(1, 2, 0)).append(look(x));
        return all.toString();
    }

    private static void allIsBack() {
        WildLevels x = busy();
        String before = look(x);
        due.is("keep(1)", x.keep(1), 0);
        due.holds("keep changes nothing", look(x).equals(before));
        String then = goOn(x);
        due.holds("it went on to another state", !look(x).equals(before));
        for (int n = 0; n < 3; n++) {
            due.is("back(1), the clock of then", x.back(1), 3);
            due.holds("all is as it was", look(x).equals(before));
            due.holds("it goes on as it did", goOn(x).equals(then));
        }
        due.holds("another object goes on so, too", goOn(busy()).equals(then));
    }

    private static void notInAnImage() {
        WildLevels x = Due.type(new WildLevels(), "oh");
        due.is("text()", x.text(), -10);
        x.keep(0);
        Due.type(x, "sub");
        Due.row(x, "a/b");
        x.keep(1);
        due.is("back(0)", x.back(0), 0);
        due.is("rule(8), the row stays", x.rule(8), 2);
        due.is("rule(9), the tape stays", x.rule(9), 3);
        due.is("rule(10), images stay", x.rule(10), 2);
        due.is("fault() stays", x.fault(), 2);
        due.is("text()", x.text(), -13);
        Due.type(x, "9");
        due.is("text()", x.text(), -10);
        due.is("back(1)", x.back(1), 0);
        due.is("fault() stays", x.fault(), 2);
    }

    /** Wills, aliases, lines, counts that were written over since are as they were. */
    private static void whatIsWrittenOver() {
        WildLevels x = Due.told("sub1 a/b 1 0;sub2 c 0 0;sub2 z 0 0;");
        x.wake(0, 1, 9);
        x.wake(1, 0, 9);
        Due.row(x, "a/b").will(0, 11, 2, 1, 6);
        x.alias(1, 3);
        x.say(1, 3, 5, 1, 0);
        x.carry(1, 0, 0);
        x.sleep(0, 1);
        Due.row(x, "c").say(1, 0, 5, 0, 0);
        x.keep(0);
        x.wake(0, 0, 9);
        Due.row(x, "z").will(0, 22, 0, 0, 3);
        x.alias(1, 3);
        x.carry(1, 1, 0);
        x.say(1, 0, 5, 0, 0);
        x.sleep(0, 1);
        x.tick(2);
        due.is("back(0)", x.back(0), 0);
        due.is("rule(3)", x.rule(3), 1);
        due.is("client(0, 11)", x.client(0, 11), 6);
        due.is("line(1, 1, 0, 0)", x.line(1, 1, 0, 0), 1);
        due.is("say by the alias of then", x.say(1, 3, 5, 0, 0), 1);
        due.is("client(1, 6)", x.client(1, 6), 1);
        due.is("tick(5)", x.tick(5), 0);
        due.is("tick(1), the will of then", x.tick(1), 1);
        due.is("kept(0, 0)", x.kept(0, 0), 2);
        due.is("kept(0, 1)", x.kept(0, 1), 11);
        due.is("kept(0, 2)", x.kept(0, 2), 2);
        x.wake(0, 0, 9);
        Due.row(x, "a").will(0, 33, 0, 0, 4);
        x.keep(1);
        x.will(0, 44, 1, 1, 0);
        x.back(1);
        x.sleep(0, 1);
        due.is("client(0, 11), the delay of then", x.client(0, 11), 10);
    }

    private static void twoImages() {
        WildLevels x = new WildLevels();
        x.tick(1);
        x.keep(0);
        x.tick(1);
        x.keep(1);
        x.tick(1);
        due.is("back(0)", x.back(0), 1);
        due.is("rule(0)", x.rule(0), 1);
        due.is("back(1)", x.back(1), 2);
        due.is("back(0) again", x.back(0), 1);
        x.tick(9);
        due.is("keep(0) anew", x.keep(0), 1);
        x.tick(1);
        due.is("back(0), the new one", x.back(0), 10);
        due.is("back(1), as it was", x.back(1), 2);
    }
}
