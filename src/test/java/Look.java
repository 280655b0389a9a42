import java.util.ArrayList;
import java.util.List;

/** All that can be seen of a run's object, fact by fact; looking uses the object up. */
final class Look {
    private final Run run;
    private final List<String> facts = new ArrayList<>();

    private Look(Run run) {
        this.run = run;
    }

    /** Sessions, letters and what else an image holds; these calls change nothing. */
    static List<String> world(Run run) {
        Look look = new Look(run);
        look.world();
        return look.facts;
    }

    /** The same, and THE ROW, THE TAPE, the fault, the images; the object is of no use behind that. */
    static List<String> all(Run run) {
        Look look = new Look(run);
        look.world();
        look.rest();
        return look.facts;
    }

    private int fact(String call) {
        int got = run.ask(call);
        facts.add(call + " answered " + got);
        return got;
    }

    private void world() {
        for (int what = 0; what <= 7; what++) {
            fact("rule(" + what + ")");
        }
        for (int i = 0; i < run.ask("rule(6)"); i++) {
            for (int what = 0; what <= 7; what++) {
                fact("kept(" + i + "," + what + ")");
            }
        }
        for (int group = 1; group <= 3; group++) {
            fact("had(" + group + ")");
        }
        for (int c = 0; c < 6; c++) {
            client(c);
        }
    }

    private void client(int c) {
        int[] told = new int[13];
        for (int what = 0; what <= 12; what++) {
            told[what] = fact("client(" + c + "," + what + ")");
        }
        rows("subscription(" + c + ",", told[3], 7);
        rows("line(" + c + ",0,", told[6], 4);
        rows("line(" + c + ",1,", told[7], 4);
        rows("flight(" + c + ",", Math.max(told[4], 0) + Math.max(told[5], 0), 4);
        rows("took(" + c + ",", Math.min(told[12], 30), 3);
    }

    private void rows(String ahead, int count, int lastFact) {
        for (int i = 0; i < count; i++) {
            for (int what = 0; what <= lastFact; what++) {
                fact(ahead + i + "," + what + ")");
            }
        }
    }

    /** THE ROW is seen by a subscription to it, images by going back, THE TAPE by its text. */
    private void rest() {
        for (int what = 8; what <= 10; what++) {
            fact("rule(" + what + ")");
        }
        fact("fault()");
        run.ask("wake(5,0,0)");
        int place = Math.max(run.ask("client(5,3)"), 0);
        fact("subscribe(5,0,3)");
        for (int what = 4; what <= 7; what++) {
            fact("subscription(5," + place + "," + what + ")");
        }
        for (int k = 0; k <= 1; k++) {
            fact("back(" + k + ")");
            fact("rule(1)");
            fact("rule(2)");
            for (int c = 0; c < 6; c++) {
                fact("client(" + c + ",0)");
            }
        }
        fact("text()");
        fact("fault()");
        fact("rule(1)");
        fact("client(0,0)");
    }
}
