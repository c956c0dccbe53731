/** "What is asked changes nothing": whatever is asked, all is as it was, and it answers the same again. */
public final class AskedTest {
    private static final Due due = new Due();

    public static void main(String[] args) {
        asked("an object with some of everything", false);
        asked("a full object", true);
        due.end();
    }

    private static CaseElsewhere made(boolean isFull) {
        return isFull ? Made.full() : Made.some();
    }

    /** A call that only asks. */
    private interface Ask {
        long of(CaseElsewhere x);
    }

    private static String[] untouched;
    private static boolean isFull;

    private static void ask(String call, Ask ask) {
        CaseElsewhere x = made(isFull);
        long first = ask.of(x);
        due.is(call + " again", ask.of(x), first);
        due.isSame(call, Whole.of(x), untouched);
    }

    private static void asked(String what, boolean full) {
        isFull = full;
        untouched = Whole.of(made(full));
        due.isSame("nothing: " + what, Whole.of(made(full)), untouched);
        int cases = full ? 6 : 3;
        for (int bag = 0; bag < cases; bag++) {
            ofCase(bag);
        }
        for (int owner = 0; owner < (full ? 6 : 2); owner++) {
            int o = owner;
            ask("fit(" + o + ", 0)", x -> x.fit(o, 0));
            ask("whose(" + o + ")", x -> x.whose(o));
        }
        ofAll();
    }

    private static void ofCase(int bag) {
        for (int what = 0; what <= 10; what++) {
            int w = what;
            ask("of(" + bag + ", " + w + ")", x -> x.of(bag, w));
        }
        for (int n = 0; n <= 6; n++) {
            int steps = n;
            ask("by(" + bag + ", " + n + ", 0)", x -> x.by(bag, steps, 0));
            ask("by(" + bag + ", " + n + ", 1)", x -> x.by(bag, steps, 1));
            ask("where(" + bag + ", " + n + ", 7, 0)", x -> x.where(bag, steps, 7, 0));
        }
        for (int what = 0; what <= 1; what++) {
            int w = what;
            ask("soonest(" + bag + ", " + w + ")", x -> x.soonest(bag, w));
            ask("steps(" + bag + ", " + w + ")", x -> x.steps(bag, w));
            ask("change(" + bag + ", 9, " + w + ")", x -> x.change(bag, 9, w));
        }
        ask("ring(" + bag + ")", x -> x.ring(bag));
        ask("need(" + bag + ", 5)", x -> x.need(bag, 5));
        ask("room(" + bag + ")", x -> x.room(bag));
        ask("could(" + bag + ")", x -> x.could(bag));
        for (int k = 0; k <= 6; k++) {
            int kind = k;
            ask("taken(" + bag + ", " + k + ")", x -> x.taken(bag, kind));
        }
    }

    private static void ofAll() {
        for (int belt = 0; belt <= 7; belt++) {
            int b = belt;
            ask("near(" + b + ", 5)", x -> x.near(b, 5));
        }
        for (int slips = 0; slips <= 3; slips++) {
            int s = slips;
            ask("like(124, " + s + ")", x -> x.like(124, s));
        }
        ask("whose(-1)", x -> x.whose(-1));
        ask("changed(0)", x -> x.changed(0));
        ask("changed(1)", x -> x.changed(1));
        ask("room(-1)", x -> x.room(-1));
        for (int i = 0; i <= 5; i++) {
            int n = i;
            ask("trace(" + n + ")", x -> x.trace(n));
            ask("count(" + n + ")", x -> x.count(n));
            ask("read(" + n + ", 1)", x -> x.read(n, 1));
            ask("judge(" + n + ", 0)", x -> x.judge(n, 0));
        }
        ask("judge(0, -1)", x -> x.judge(0, -1));
        ask("judge(0, 3)", x -> x.judge(0, 3));
    }
}
