/**
 * Promise by promise: what each call refuses, at the last number that is as told and the first ones beyond it,
 * which refusal comes ahead of which, and that what is refused changes nothing.
 */
public final class RefusalsTest {
    private static final Due due = new Due();
    private static final long NO = CaseElsewhere.NO;
    private static final String[] SOME = Whole.of(Made.some());
    private static final String[] FULL = Whole.of(Made.full());

    /** A call on an object. */
    private interface Call {
        long on(CaseElsewhere x);
    }

    public static void main(String[] args) {
        leadsAndNear();
        bag();
        of();
        set();
        owner();
        feedAndHall();
        ride();
        byAndWhere();
        soonestRingSteps();
        likeAndFit();
        whoseAndChanged();
        changeAndNeed();
        room();
        film();
        couldAndJudge();
        undo();
        actTraceTakenCount();
        tape();
        itemAndRead();
        shift();
        shiftPlaces();
        due.end();
    }

    /** Of three CASES 0 .. 2 and two OWNERS 0 and 1. */
    private static void refused(String call, long want, Call on) {
        CaseElsewhere x = Made.some();
        due.is(call, on.on(x), want);
        due.isSame(call, Whole.of(x), SOME);
    }

    private static void refusedByFull(String call, long want, Call on) {
        CaseElsewhere x = Made.full();
        due.is(call + " where all is full", on.on(x), want);
        due.isSame(call + " where all is full", Whole.of(x), FULL);
    }

    private static void leadsAndNear() {
        for (int n : Due.beyond(0, 7)) {
            refused("leads(" + n + ", 0, 0)", -1, x -> x.leads(n, 0, 0));
            refused("leads(" + n + ", 1, 0)", -1, x -> x.leads(n, 1, 0));
            refused("leads(0, 0, " + n + ")", -1, x -> x.leads(0, 0, n));
            refused("leads(7, 1, " + n + ")", -1, x -> x.leads(7, 1, n));
            refused("near(" + n + ", 0)", -1, x -> x.near(n, 0));
            refused("near(7, " + n + ")", -1, x -> x.near(7, n));
            refused("near(" + n + ", " + n + ")", -1, x -> x.near(n, n));
        }
        for (int n : Due.beyond(0, 1)) {
            refused("leads(0, " + n + ", 0)", -1, x -> x.leads(0, n, 0));
        }
    }

    private static void bag() {
        for (int n : Due.beyond(0, 6)) {
            refused("bag(" + n + ", 0, 0, 0, 0)", -1, x -> x.bag(n, 0, 0, 0, 0));
            refused("bag(" + n + ", 10, 0, 0, 0): KIND ahead of v", -1, x -> x.bag(n, 10, 0, 0, 0));
            refusedByFull("bag(" + n + ", 10, 0, 0, 1000)", -1, x -> x.bag(n, 10, 0, 0, 1000));
        }
        for (int n : Due.beyond(0, 7)) {
            refused("bag(0, 0, " + n + ", 0, 0)", -1, x -> x.bag(0, 0, n, 0, 0));
            refused("bag(0, 0, 0, " + n + ", 0)", -1, x -> x.bag(0, 0, 0, n, 0));
            refused("bag(0, 10, " + n + ", 0, 0): BELT ahead of v", -1, x -> x.bag(0, 10, n, 0, 0));
            refused("bag(0, -1, 0, " + n + ", -1): SLIP ahead of v", -1, x -> x.bag(0, -1, 0, n, -1));
            refusedByFull("bag(0, 0, " + n + ", 0, 0)", -1, x -> x.bag(0, 0, n, 0, 0));
            refusedByFull("bag(0, 0, 0, " + n + ", 0)", -1, x -> x.bag(0, 0, 0, n, 0));
        }
        for (int n : Due.beyond(0, 9)) {
            refused("bag(0, " + n + ", 0, 0, 0)", -2, x -> x.bag(0, n, 0, 0, 0));
            refusedByFull("bag(0, " + n + ", 0, 0, 0)", -2, x -> x.bag(0, n, 0, 0, 0));
        }
        for (int n : Due.beyond(0, 999)) {
            refused("bag(0, 0, 0, 0, " + n + ")", -2, x -> x.bag(0, 0, 0, 0, n));
            refusedByFull("bag(0, 0, 0, 0, " + n + ")", -2, x -> x.bag(0, 0, 0, 0, n));
        }
        refusedByFull("bag(0, 0, 0, 0, 0)", -4, x -> x.bag(0, 0, 0, 0, 0));
        refusedByFull("bag(6, 9, 7, 7, 999)", -4, x -> x.bag(6, 9, 7, 7, 999));
    }

    private static void of() {
        for (int n : Due.beyond(0, 2)) {
            for (int what = 0; what <= 10; what++) {
                int w = what;
                refused("of(" + n + ", " + w + ")", -1, x -> x.of(n, w));
            }
        }
        for (int n : Due.beyond(0, 5)) {
            refusedByFull("of(" + n + ", 0)", -1, x -> x.of(n, 0));
        }
        for (int n : Due.beyond(0, 10)) {
            refused("of(0, " + n + ")", -1, x -> x.of(0, n));
            refused("of(3, " + n + ")", -1, x -> x.of(3, n));
        }
    }

    private static void set() {
        for (int n : Due.beyond(0, 2)) {
            refused("set(" + n + ", 0, 1)", -1, x -> x.set(n, 0, 1));
            refused("set(" + n + ", 1, 1)", -1, x -> x.set(n, 1, 1));
            refused("set(" + n + ", 2, 1)", -1, x -> x.set(n, 2, 1));
            refused("set(" + n + ", 1, 10): no CASE ahead of TORN", -1, x -> x.set(n, 1, 10));
            refused("set(0, " + n + ", 1)", -1, x -> x.set(0, n, 1));
            refused("set(0, " + n + ", 10): what ahead of TORN", -1, x -> x.set(0, n, 10));
        }
        for (int n : Due.beyond(0, 5)) {
            refusedByFull("set(" + n + ", 2, 1)", -1, x -> x.set(n, 2, 1));
        }
        for (int n : Due.beyond(0, 7)) {
            refused("set(0, 0, " + n + ")", -1, x -> x.set(0, 0, n));
            refused("set(0, 2, " + n + ")", -1, x -> x.set(0, 2, n));
        }
        for (int n : Due.beyond(0, 9)) {
            refused("set(0, 1, " + n + ")", -2, x -> x.set(0, 1, n));
        }
    }

    private static void owner() {
        for (int n : Due.beyond(0, 7)) {
            refused("owner(0, " + n + ")", -1, x -> x.owner(0, n));
            refused("owner(1000, " + n + "): BELT ahead of marks", -1, x -> x.owner(1000, n));
            refusedByFull("owner(0, " + n + ")", -1, x -> x.owner(0, n));
        }
        for (int n : Due.beyond(0, 999)) {
            refused("owner(" + n + ", 0)", -2, x -> x.owner(n, 0));
            refusedByFull("owner(" + n + ", 0)", -2, x -> x.owner(n, 0));
        }
        refusedByFull("owner(0, 0)", -4, x -> x.owner(0, 0));
        refusedByFull("owner(999, 7)", -4, x -> x.owner(999, 7));
    }

    private static void feedAndHall() {
        for (int n : Due.beyond(0, 127)) {
            refused("feed(" + n + ")", -2, x -> x.feed(n));
            refusedByFull("feed(" + n + ")", -2, x -> x.feed(n));
        }
        refusedByFull("feed(0)", -4, x -> x.feed(0));
        refusedByFull("feed(127)", -4, x -> x.feed(127));
        refusedByFull("hall()", -4, CaseElsewhere::hall);
    }

    private static void ride() {
        for (int n : Due.beyond(0, 2)) {
            refused("ride(" + n + ", true)", -1, x -> x.ride(n, true));
            refused("ride(" + n + ", false)", -1, x -> x.ride(n, false));
        }
        for (int n : Due.beyond(0, 5)) {
            refusedByFull("ride(" + n + ", true)", -1, x -> x.ride(n, true));
        }
        refused("ride(2, true), THERE", -3, x -> x.ride(2, true));
        refused("ride(2, false), THERE", -3, x -> x.ride(2, false));
    }

    private static void byAndWhere() {
        for (int n : Due.beyond(0, 2)) {
            refused("by(" + n + ", 0, 0)", NO, x -> x.by(n, 0, 0));
            refused("where(" + n + ", 0, 0, 1)", NO, x -> x.where(n, 0, 0, 1));
        }
        for (int n : Due.beyond(0, 5)) {
            refusedByFull("by(" + n + ", 6, 0)", NO, x -> x.by(n, 6, 0));
            refusedByFull("where(" + n + ", 6, 0, 0)", NO, x -> x.where(n, 6, 0, 0));
        }
        for (int n : Due.beyond(0, 6)) {
            refused("by(0, " + n + ", 0)", NO, x -> x.by(0, n, 0));
            refused("by(2, " + n + ", 1), THERE", NO, x -> x.by(2, n, 1));
            refused("where(0, " + n + ", 0, 0)", NO, x -> x.where(0, n, 0, 0));
            refused("where(2, " + n + ", 7, 1), THERE", NO, x -> x.where(2, n, 7, 1));
        }
        for (int n : Due.beyond(0, 7)) {
            refused("where(0, 0, " + n + ", 0)", NO, x -> x.where(0, 0, n, 0));
            refused("where(2, 6, " + n + ", 1)", NO, x -> x.where(2, 6, n, 1));
        }
        for (int n : Due.beyond(0, 1)) {
            refused("by(0, 0, " + n + ")", NO, x -> x.by(0, 0, n));
            refused("by(2, 6, " + n + ")", NO, x -> x.by(2, 6, n));
            refused("where(0, 0, 0, " + n + ")", NO, x -> x.where(0, 0, 0, n));
            refused("where(2, 6, 7, " + n + ")", NO, x -> x.where(2, 6, 7, n));
        }
    }

    private static void soonestRingSteps() {
        for (int n : Due.beyond(0, 2)) {
            refused("soonest(" + n + ", 0)", -1, x -> x.soonest(n, 0));
            refused("soonest(" + n + ", 1)", -1, x -> x.soonest(n, 1));
            refused("ring(" + n + ")", -1, x -> x.ring(n));
            refused("steps(" + n + ", 0)", -1, x -> x.steps(n, 0));
            refused("steps(" + n + ", 1)", -1, x -> x.steps(n, 1));
        }
        for (int n : Due.beyond(0, 5)) {
            refusedByFull("soonest(" + n + ", 0)", -1, x -> x.soonest(n, 0));
            refusedByFull("ring(" + n + ")", -1, x -> x.ring(n));
            refusedByFull("steps(" + n + ", 0)", -1, x -> x.steps(n, 0));
        }
        for (int n : Due.beyond(0, 1)) {
            refused("soonest(0, " + n + ")", -1, x -> x.soonest(0, n));
            refused("soonest(2, " + n + "), THERE", -1, x -> x.soonest(2, n));
            refused("steps(0, " + n + ")", -1, x -> x.steps(0, n));
            refused("steps(2, " + n + "), THERE", -1, x -> x.steps(2, n));
        }
    }

    private static void likeAndFit() {
        for (int n : Due.beyond(0, 999)) {
            refused("like(" + n + ", 0)", -2, x -> x.like(n, 0));
            refused("like(" + n + ", 3)", -2, x -> x.like(n, 3));
        }
        for (int n : Due.beyond(0, 3)) {
            refused("like(0, " + n + ")", -2, x -> x.like(0, n));
            refused("like(999, " + n + ")", -2, x -> x.like(999, n));
        }
        for (int n : Due.beyond(0, 2)) {
            refused("fit(0, " + n + ")", -1, x -> x.fit(0, n));
        }
        for (int n : Due.beyond(0, 1)) {
            refused("fit(" + n + ", 0)", -1, x -> x.fit(n, 0));
        }
        for (int n : Due.beyond(0, 5)) {
            refusedByFull("fit(5, " + n + ")", -1, x -> x.fit(5, n));
            refusedByFull("fit(" + n + ", 5)", -1, x -> x.fit(n, 5));
        }
    }

    private static void whoseAndChanged() {
        for (int n : Due.beyond(-1, 1)) {
            refused("whose(" + n + ")", -10001, x -> x.whose(n));
        }
        for (int n : Due.beyond(-1, 5)) {
            refusedByFull("whose(" + n + ")", -10001, x -> x.whose(n));
        }
        for (int n : Due.beyond(0, 1)) {
            refused("changed(" + n + ")", -1, x -> x.changed(n));
        }
    }

    private static void changeAndNeed() {
        for (int n : Due.beyond(0, 2)) {
            refused("change(" + n + ", 0, 0)", NO, x -> x.change(n, 0, 0));
            refused("need(" + n + ", 1)", -1, x -> x.need(n, 1));
            refused("need(" + n + ", 11): no CASE ahead of p", -1, x -> x.need(n, 11));
        }
        for (int n : Due.beyond(0, 5)) {
            refusedByFull("change(" + n + ", 0, 0)", NO, x -> x.change(n, 0, 0));
            refusedByFull("need(" + n + ", 1)", -1, x -> x.need(n, 1));
        }
        for (int n : Due.beyond(0, 99)) {
            refused("change(0, " + n + ", 0)", NO, x -> x.change(0, n, 0));
            refused("change(2, " + n + ", 1), THERE", NO, x -> x.change(2, n, 1));
        }
        for (int n : Due.beyond(0, 1)) {
            refused("change(0, 0, " + n + ")", NO, x -> x.change(0, 0, n));
            refused("change(2, 99, " + n + "), THERE", NO, x -> x.change(2, 99, n));
        }
        for (int n : Due.beyond(1, 10)) {
            refused("need(0, " + n + ")", -2, x -> x.need(0, n));
            refused("need(2, " + n + "), THERE", -2, x -> x.need(2, n));
        }
    }

    private static void room() {
        for (int n : Due.beyond(-1, 2)) {
            refused("room(" + n + ")", -10001, x -> x.room(n));
        }
        for (int n : Due.beyond(-1, 5)) {
            refusedByFull("room(" + n + ")", -10001, x -> x.room(n));
        }
    }

    private static void film() {
        for (int n : Due.beyond(-1, 7)) {
            refused("film(" + n + ")", -1, x -> x.film(n));
            refusedByFull("film(" + n + ")", -1, x -> x.film(n));
        }
        refusedByFull("film(0)", -4, x -> x.film(0));
        refusedByFull("film(7)", -4, x -> x.film(7));
    }

    private static void couldAndJudge() {
        for (int n : Due.beyond(0, 2)) {
            refused("could(" + n + ")", -1, x -> x.could(n));
        }
        for (int n : Due.beyond(0, 5)) {
            refusedByFull("could(" + n + ")", -1, x -> x.could(n));
            refused("judge(" + n + ", 0)", -1, x -> x.judge(n, 0));
        }
        for (int sort = 1; sort <= 4; sort++) {
            int tape = sort;
            refused("judge(" + tape + ", 0)", -12, x -> x.judge(tape, 0));
            refused("judge(" + tape + ", -1)", -12, x -> x.judge(tape, -1));
            refused("judge(" + tape + ", 3)", -12, x -> x.judge(tape, 3));
        }
    }

    private static void undo() {
        CaseElsewhere x = new CaseElsewhere();
        x.bag(1, 2, 3, 4, 567);
        x.leads(3, 0, 1);
        CaseElsewhere y = new CaseElsewhere();
        y.bag(1, 2, 3, 4, 567);
        y.leads(3, 0, 1);
        due.is("undo() without an IMAGE", x.undo(), -3);
        due.isSame("undo() without an IMAGE", Whole.of(x), Whole.of(y));
    }

    private static void actTraceTakenCount() {
        for (int n : Due.beyond(0, 5)) {
            refused("count(" + n + ")", -2, x -> x.count(n));
        }
        for (int n : Due.beyond(0, 11)) {
            refused("trace(" + n + "), twelve bodies ran", -1, x -> x.trace(n));
        }
        for (int n : Due.beyond(0, 6)) {
            refused("taken(0, " + n + ")", -2, x -> x.taken(0, n));
            refused("taken(3, " + n + "): k ahead of no CASE", -2, x -> x.taken(3, n));
        }
        for (int n : Due.beyond(0, 2)) {
            refused("taken(" + n + ", 0)", -11, x -> x.taken(n, 0));
            refused("taken(" + n + ", 6)", -11, x -> x.taken(n, 6));
        }
        for (int n : Due.beyond(0, 5)) {
            refusedByFull("taken(" + n + ", 0)", -11, x -> x.taken(n, 0));
        }
        refused("taken(0, 1): CASE is no READ", -12, x -> x.taken(0, 1));
        refused("taken(1, 2): TAGGED is no HANDLED", -12, x -> x.taken(1, 2));
        refused("taken(2, 4): ROUND is no TAGGED", -12, x -> x.taken(2, 4));
        for (int n : Due.beyond(0, 2)) {
            noAct("act(" + n + ", 0, 3)", x -> x.act(n, 0, 3));
            noAct("act(" + n + ", 2, 3)", x -> x.act(n, 2, 3));
            noAct("act(0, " + n + ", 3)", x -> x.act(0, n, 3));
        }
    }

    /** What is answered so leaves no TRACE, and changes nothing else. */
    private static void noAct(String call, Call on) {
        CaseElsewhere x = Made.some();
        due.is(call, on.on(x), 0);
        due.is("count(5) behind " + call, x.count(5), 0);
        due.is("trace(0) behind " + call, x.trace(0), -1);
        x.act(2, 2, 5);
        due.isSame(call + " and an act()", Whole.of(x), SOME);
    }

    private static void tape() {
        for (int n : Due.beyond(0, 5)) {
            refused("tape(" + n + ", 0, 1)", -1, x -> x.tape(n, 0, 1));
            refused("tape(" + n + ", 5, 1): no TAPE ahead of sort", -1, x -> x.tape(n, 5, 1));
            refused("tape(" + n + ", 0, 61): no TAPE ahead of n", -1, x -> x.tape(n, 0, 61));
            refused("tape(" + n + ", 0, -1): no TAPE ahead of SIZE", -1, x -> x.tape(n, 0, -1));
            refused("tape(" + n + ", -1, 0)", -1, x -> x.tape(n, -1, 0));
        }
        for (int n : Due.beyond(-1, 4)) {
            refused("tape(0, " + n + ", 1)", -2, x -> x.tape(0, n, 1));
            refused("tape(0, " + n + ", -1): sort ahead of SIZE", -2, x -> x.tape(0, n, -1));
            refused("tape(0, " + n + ", 61)", -2, x -> x.tape(0, n, 61));
        }
        for (int sort = 0; sort <= 4; sort++) {
            int s = sort;
            for (int n : new int[] {61, Integer.MAX_VALUE}) {
                refused("tape(" + s + ", " + s + ", " + n + ")", -2, x -> x.tape(s, s, n));
            }
            for (int n : new int[] {-1, Integer.MIN_VALUE}) {
                refused("tape(" + s + ", " + s + ", " + n + ")", -14, x -> x.tape(s, s, n));
            }
        }
    }

    private static void itemAndRead() {
        for (int n : Due.beyond(0, 5)) {
            refused("item(" + n + ", 0, 1)", -1, x -> x.item(n, 0, 1));
            refused("item(" + n + ", -1, 1): no TAPE ahead of PLACE", -1, x -> x.item(n, -1, 1));
            refused("read(" + n + ", 0)", NO, x -> x.read(n, 0));
        }
        refused("item(5, 0, 1)", -11, x -> x.item(5, 0, 1));
        for (int n : Due.beyond(0, 2)) {
            refused("item(5, " + n + ", 1): NOTHING ahead of PLACE", -11, x -> x.item(5, n, 1));
            refused("read(5, " + n + ")", NO, x -> x.read(5, n));
            for (int sort = 0; sort <= 4; sort++) {
                int tape = sort;
                refused("item(" + tape + ", " + n + ", 1)", -13, x -> x.item(tape, n, 1));
                refused("read(" + tape + ", " + n + ")", NO, x -> x.read(tape, n));
            }
        }
    }

    private static void shift() {
        for (int n : Due.beyond(0, 5)) {
            refused("shift(" + n + ", 0, 0, 0, 1)", -1, x -> x.shift(n, 0, 0, 0, 1));
            refused("shift(0, 0, " + n + ", 0, 1)", -1, x -> x.shift(0, 0, n, 0, 1));
            refused("shift(" + n + ", 0, 5, 0, 1): no TAPE ahead of NOTHING", -1, x -> x.shift(n, 0, 5, 0, 1));
            refused("shift(5, 0, " + n + ", 0, 1): no TAPE ahead of NOTHING", -1, x -> x.shift(5, 0, n, 0, 1));
            refused("shift(" + n + ", -1, 1, -1, -1): no TAPE ahead of PLACE", -1, x -> x.shift(n, -1, 1, -1, -1));
        }
        for (int tape = 0; tape <= 4; tape++) {
            int t = tape;
            refused("shift(" + t + ", 0, 5, 0, 1)", -11, x -> x.shift(t, 0, 5, 0, 1));
            refused("shift(5, 0, " + t + ", 0, 1)", -11, x -> x.shift(5, 0, t, 0, 1));
            refused("shift(5, -1, " + t + ", 9, -1): NOTHING ahead of PLACE", -11, x -> x.shift(5, -1, t, 9, -1));
            refused("shift(" + t + ", 9, 5, 9, 9): NOTHING ahead of PLACE", -11, x -> x.shift(t, 9, 5, 9, 9));
            for (int other = 0; other <= 4; other++) {
                int o = other;
                if (o != t) {
                    refused("shift(" + t + ", 0, " + o + ", 0, 1)", -12, x -> x.shift(t, 0, o, 0, 1));
                    refused("shift(" + t + ", 0, " + o + ", 0, 0)", -12, x -> x.shift(t, 0, o, 0, 0));
                    refused("shift(" + t + ", 0, " + o + ", 0, 4): CAST ahead of PLACE", -12, x -> x.shift(t, 0, o, 0, 4));
                }
            }
        }
        refused("shift(5, 0, 5, 0, 0)", -11, x -> x.shift(5, 0, 5, 0, 0));
    }

    /** Each TAPE of three items: from and to, and how many. */
    private static void shiftPlaces() {
        int least = Integer.MIN_VALUE;
        int most = Integer.MAX_VALUE;
        int[][] places = {
            {-1, 0, 1}, {0, -1, 1}, {0, 0, -1}, {-1, 0, 0}, {0, -1, 0},
            {0, 0, 4}, {1, 0, 3}, {0, 1, 3}, {2, 0, 2}, {0, 2, 2}, {3, 0, 1}, {0, 3, 1}, {4, 0, 0}, {0, 4, 0}, {4, 0, -1},
            {least, 0, 1}, {0, least, 1}, {0, 0, least}, {most, 0, 1}, {0, most, 1}, {0, 0, most},
            {most, 0, most}, {0, most, most}, {least, least, least}, {1, 0, most}, {0, 1, most}, {least, 0, most},
        };
        for (int[] p : places) {
            for (int tape = 0; tape <= 4; tape++) {
                int t = tape;
                String call = "shift(" + t + ", " + p[0] + ", " + t + ", " + p[1] + ", " + p[2] + ")";
                refused(call, -13, x -> x.shift(t, p[0], t, p[1], p[2]));
            }
        }
    }
}
