/**
 * 9999 STEPS: no shorter run of calls comes to them, so these objects alone are used for more calls than an
 * object is promised for.
 */
public final class LongRideTest {
    private static final Due due = new Due();

    public static void main(String[] args) {
        lastStep();
        askedBeyond();
        otherCases();
        due.end();
    }

    /** A CASE on BELT 0, which leads to itself, with so many STEPS gone; its SLIP is 7, to which the SECOND leads. */
    private static CaseElsewhere gone(int steps) {
        CaseElsewhere x = new CaseElsewhere();
        x.leads(0, 0, 0);
        x.leads(0, 1, 7);
        x.bag(0, 0, 0, 7, 0);
        for (int i = 0; i < steps; i++) {
            x.ride(0, false);
        }
        return x;
    }

    /** "STATE: it .. has gone 9999 STEPS": with 9998 it goes once more. */
    private static void lastStep() {
        CaseElsewhere x = gone(9998);
        due.is("STEPS", x.of(0, 6), 9998);
        due.is("ride behind 9998 STEPS", x.ride(0, false), 0);
        due.is("STEPS", x.of(0, 6), 9999);
        due.is("MINUTES", x.of(0, 7), 9999);
        due.is("ride(0, false) behind 9999 STEPS", x.ride(0, false), -3);
        due.is("ride(0, true) behind 9999 STEPS", x.ride(0, true), -3);
        due.is("STEPS behind what was refused", x.of(0, 6), 9999);
        due.is("MINUTES behind what was refused", x.of(0, 7), 9999);
        due.is("BELT behind what was refused", x.of(0, 2), 0);
        due.is("set(0, 2, 5)", x.set(0, 2, 5), 0);
        due.is("ride from another BELT", x.ride(0, true), -3);
        due.is("set(0, 0, 5)", x.set(0, 0, 5), 7);
        due.is("ride, THERE", x.ride(0, true), -3);
        due.is("of(0, 10)", x.of(0, 10), 1);
        CaseElsewhere y = gone(9998);
        due.is("the 9999th STEP, READ", y.ride(0, true), 7);
        due.is("STEPS", y.of(0, 6), 9999);
        due.is("ride, THERE", y.ride(0, true), -3);
    }

    /** "(STEPS also beyond 9999)": g is 39 with 9999 STEPS, and goes on to 40, 41 .. in what is asked. */
    private static void askedBeyond() {
        CaseElsewhere x = gone(9999);
        Due.hall(x, "blur 6 g=39;blur 5 g=40;blur 4 g=41;slow 2 g=39;slow 4 g=40");
        due.is("SEEN with g 39", x.of(0, 8), 1);
        due.is("TAKES with g 39", x.of(0, 9), 3);
        due.is("by(0, 1, 0)", x.by(0, 1, 0), 1);
        due.is("by(0, 1, 1)", x.by(0, 1, 1), 10);
        due.is("by(0, 2, 0)", x.by(0, 2, 0), 7);
        due.is("by(0, 2, 1)", x.by(0, 2, 1), 25);
        due.is("by(0, 3, 0)", x.by(0, 3, 0), 62);
        due.is("by(0, 3, 1)", x.by(0, 3, 1), 125);
        due.is("where(0, 2, 0, 0)", x.where(0, 2, 0, 0), 18);
        due.is("where(0, 2, 0, 1)", x.where(0, 2, 0, 1), 25);
        due.is("soonest(0, 0)", x.soonest(0, 0), 3);
        due.is("soonest(0, 1)", x.soonest(0, 1), 1);
        due.is("steps(0, 0)", x.steps(0, 0), 1);
        due.is("steps(0, 1)", x.steps(0, 1), -5);
        due.is("ring(0)", x.ring(0), 0);
        x.leads(0, 1, 6);
        due.is("soonest(0, 0) by two", x.soonest(0, 0), 8);
        due.is("steps(0, 0) by two", x.steps(0, 0), 2);
        due.is("change(0, 8, 0)", x.change(0, 8, 0), 1);
        due.is("change(0, 8, 1)", x.change(0, 8, 1), 9);
        due.is("need(0, 10)", x.need(0, 10), 12);
        x.film(0);
        x.film(6);
        x.film(7);
        due.is("could(0): what is told goes on, too", x.could(0), -5);
        Due.hall(x, "slow 99 b=6&g>38;slow 99 b=6&g>38;slow 99 b=6&g>38;slow 9 b=0");
        due.is("soonest(0, 0): it stays on 0 till g is 0", x.soonest(0, 0), 21 * 10 + 1);
        due.is("soonest(0, 1)", x.soonest(0, 1), 0);
        due.is("STEPS behind what was asked", x.of(0, 6), 9999);
    }

    /** One that has gone so far keeps no other one. */
    private static void otherCases() {
        CaseElsewhere x = gone(9999);
        x.bag(0, 0, 0, 7, 0);
        due.is("ride(1, false)", x.ride(1, false), 0);
        due.is("ride(0, false)", x.ride(0, false), -3);
        x.image();
        due.is("undo()", x.undo(), 2);
        due.is("STEPS behind undo()", x.of(0, 6), 9999);
        due.is("ride(0, false) behind undo()", x.ride(0, false), -3);
    }
}
