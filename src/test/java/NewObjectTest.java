/** Promise 1: a new object has no sessions and keeps nothing. */
public final class NewObjectTest {
    public static void main(String[] args) {
        Due due = new Due("NewObjectTest");
        WildLevels x = new WildLevels();
        for (int what = 0; what <= 10; what++) {
            due.is("rule(" + what + ")", x.rule(what), 0);
        }
        for (int c = 0; c < 6; c++) {
            due.is("client(" + c + ", 0)", x.client(c, 0), 0);
            for (int what = 1; what <= 11; what++) {
                due.is("client(" + c + ", " + what + ")", x.client(c, what), WildLevels.NONE);
            }
            due.is("client(" + c + ", 12)", x.client(c, 12), 0);
            due.is("subscription(" + c + ", 0, 0)", x.subscription(c, 0, 0), WildLevels.NONE);
            due.is("flight(" + c + ", 0, 0)", x.flight(c, 0, 0), WildLevels.NONE);
            due.is("took(" + c + ", 0, 0)", x.took(c, 0, 0), WildLevels.NONE);
            due.is("line(" + c + ", 0, 0, 0)", x.line(c, 0, 0, 0), WildLevels.NONE);
            due.is("line(" + c + ", 1, 0, 0)", x.line(c, 1, 0, 0), WildLevels.NONE);
        }
        due.is("kept(0, 0)", x.kept(0, 0), WildLevels.NONE);
        due.is("fault()", x.fault(), 0);
        due.is("back(0)", x.back(0), WildLevels.STATE);
        due.is("back(1)", x.back(1), WildLevels.STATE);
        apart(due);
        constants(due);
        due.finish();
    }

    /** Two objects know nothing of each other. */
    private static void apart(Due due) {
        WildLevels x = new WildLevels();
        WildLevels y = new WildLevels();
        x.feed('a');
        x.level(1);
        x.wake(0, 1, 1);
        x.keep(0);
        due.is("y.rule(8)", y.rule(8), 0);
        due.is("y.rule(9)", y.rule(9), 0);
        due.is("y.rule(10)", y.rule(10), 0);
        due.is("y.client(0, 0)", y.client(0, 0), 0);
    }

    private static void constants(Due due) {
        due.is("BAD", WildLevels.BAD, -1);
        due.is("STATE", WildLevels.STATE, -2);
        due.is("FULL", WildLevels.FULL, -3);
        due.is("NONE", WildLevels.NONE, -4);
    }
}
