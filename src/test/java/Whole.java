import java.util.ArrayList;
import java.util.List;

/** All that an object answers, call by call; it is no good for anything else behind that. */
final class Whole {
    private final CaseElsewhere x;
    private final List<String> answers = new ArrayList<>();

    private Whole(CaseElsewhere x) {
        this.x = x;
    }

    static String[] of(CaseElsewhere x) {
        Whole whole = new Whole(x);
        whole.counts();
        whole.trace();
        whole.tapes();
        whole.cases();
        whole.belts();
        whole.text();
        whole.image();
        return whole.answers.toArray(new String[0]);
    }

    private void put(String call, long answer) {
        answers.add(call + " -> " + answer);
    }

    private void counts() {
        for (int what = 0; what <= 5; what++) {
            put("count(" + what + ")", x.count(what));
        }
    }

    private void trace() {
        for (int i = 0; i <= x.count(5); i++) {
            put("trace(" + i + ")", x.trace(i));
        }
    }

    private void tapes() {
        for (int tape = 0; tape <= 5; tape++) {
            for (int i = 0; i <= 3; i++) {
                put("read(" + tape + ", " + i + ")", x.read(tape, i));
            }
        }
    }

    private void cases() {
        int cases = x.count(0);
        for (int bag = 0; bag < cases; bag++) {
            for (int what = 0; what <= 10; what++) {
                put("of(" + bag + ", " + what + ")", x.of(bag, what));
            }
            put("could(" + bag + ")", x.could(bag));
        }
        for (int owner = 0; owner < x.count(1); owner++) {
            for (int bag = 0; bag < Math.min(cases, 2); bag++) {
                put("fit(" + owner + ", " + bag + ")", x.fit(owner, bag));
            }
        }
        put("room(-1)", x.room(-1));
        put("room(0)", x.room(0));
    }

    /** Asks for where BELTS lead to by having them lead elsewhere. */
    private void belts() {
        for (int belt = 0; belt < 8; belt++) {
            put("leads(" + belt + ", 0, ..)", x.leads(belt, 0, 0));
            put("leads(" + belt + ", 1, ..)", x.leads(belt, 1, 0));
        }
    }

    private void text() {
        put("hall()", x.hall());
        put("count(4) behind hall()", x.count(4));
        put("of(0, 8) behind hall()", x.of(0, 8));
        put("of(0, 9) behind hall()", x.of(0, 9));
    }

    private void image() {
        put("undo()", x.undo());
        counts();
        cases();
        belts();
    }
}
