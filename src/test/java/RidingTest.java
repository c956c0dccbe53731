/** Promises 10 to 15: ride, by, where, soonest, ring, steps. */
public final class RidingTest {
    private static final Due due = new Due();

    public static void main(String[] args) {
        ride();
        readGoesNearer();
        by();
        byWithSteps();
        where();
        soonest();
        soonestWaits();
        ring();
        steps();
        none();
        due.end();
    }

    private static void ride() {
        CaseElsewhere x = new CaseElsewhere();
        x.bag(0, 0, 6, 0, 0);
        x.leads(6, 1, 0);
        Due.hall(x, "slow 5 b=7;slow 9 b=0;slow 2 g=0");
        due.is("ride(0, false)", x.ride(0, false), 7);
        due.is("STEPS", x.of(0, 6), 1);
        due.is("MINUTES of the BELT left, ahead of the STEP", x.of(0, 7), 3);
        due.is("ride(0, true)", x.ride(0, true), 0);
        due.is("STEPS", x.of(0, 6), 2);
        due.is("MINUTES", x.of(0, 7), 9);
        due.is("of(0, 10)", x.of(0, 10), 1);
        due.is("ride(0, true), THERE", x.ride(0, true), -3);
        due.is("ride(0, false), THERE", x.ride(0, false), -3);
        due.is("STEPS behind what was refused", x.of(0, 6), 2);
        due.is("MINUTES behind what was refused", x.of(0, 7), 9);
        x.set(0, 0, 3);
        due.is("ride(0, false), with another SLIP", x.ride(0, false), 1);
        due.is("STEPS go on", x.of(0, 6), 3);
        for (int n : new int[] {-1, 1, 6, Integer.MIN_VALUE, Integer.MAX_VALUE}) {
            due.is("ride(" + n + ", true)", x.ride(n, true), -1);
        }
    }

    private static void readGoesNearer() {
        CaseElsewhere x = new CaseElsewhere();
        x.leads(0, 1, 5);
        x.bag(0, 0, 0, 6, 0);
        due.is("READ: the SECOND is nearer", x.ride(0, true), 5);
        x.set(0, 2, 0);
        due.is("not READ: the FIRST", x.ride(0, false), 1);
        x.set(0, 2, 0);
        x.set(0, 0, 2);
        due.is("READ: the FIRST is nearer", x.ride(0, true), 1);
        x.set(0, 2, 0);
        x.leads(1, 1, 7);
        x.leads(5, 1, 7);
        x.set(0, 0, 7);
        due.is("READ: both alike", x.ride(0, true), 1);
        x.leads(3, 0, 3);
        x.leads(3, 1, 4);
        x.leads(4, 0, 4);
        x.leads(4, 1, 4);
        x.set(0, 2, 3);
        due.is("READ: from neither", x.ride(0, true), 3);
        x.leads(3, 1, 6);
        due.is("READ: from the SECOND alone", x.ride(0, true), 6);
    }

    private static void by() {
        CaseElsewhere x = new CaseElsewhere();
        x.leads(0, 1, 4);
        x.bag(0, 0, 0, 4, 0);
        fraction(x, 0, 0, 0, 1);
        fraction(x, 0, 1, 7, 10);
        fraction(x, 0, 3, 7, 10);
        // not READ: by 1, 2, 3 to 4
        fraction(x, 0, 4, 1, 1);
        fraction(x, 0, 6, 1, 1);
        x.leads(3, 1, 5);
        x.leads(3, 0, 0);
        x.leads(3, 1, 0);
        // a ring of four, left with 7 of ten each time at 0
        fraction(x, 0, 4, 7, 10);
        fraction(x, 0, 5, 91, 100);
        x.bag(2, 5, 0, 4, 0);
        fraction(x, 1, 1, 1, 2);
        fraction(x, 1, 5, 3, 4);
        x.bag(0, 0, 4, 4, 0);
        fraction(x, 2, 0, 1, 1);
        fraction(x, 2, 6, 1, 1);
        due.is("BELT behind by", x.of(0, 2), 0);
        due.is("STEPS behind by", x.of(0, 6), 0);
        long no = CaseElsewhere.NO;
        due.is("by(-1, 0, 0)", x.by(-1, 0, 0), no);
        due.is("by(3, 0, 0)", x.by(3, 0, 0), no);
        due.is("by(0, -1, 0)", x.by(0, -1, 0), no);
        due.is("by(0, 7, 0)", x.by(0, 7, 0), no);
        due.is("by(0, 0, -1)", x.by(0, 0, -1), no);
        due.is("by(0, 0, 2)", x.by(0, 0, 2), no);
        due.is("by of the least numbers", x.by(Integer.MIN_VALUE, Integer.MIN_VALUE, Integer.MIN_VALUE), no);
        due.is("by of the most", x.by(Integer.MAX_VALUE, Integer.MAX_VALUE, Integer.MAX_VALUE), no);
    }

    private static void fraction(CaseElsewhere x, int bag, int n, long above, long below) {
        due.is("by(" + bag + ", " + n + ", 0)", x.by(bag, n, 0), above);
        due.is("by(" + bag + ", " + n + ", 1)", x.by(bag, n, 1), below);
    }

    /** SEEN goes on with BELTS and STEPS. */
    private static void byWithSteps() {
        CaseElsewhere x = new CaseElsewhere();
        for (int belt = 0; belt < 4; belt++) {
            x.leads(belt, 1, 7);
        }
        x.bag(0, 0, 0, 7, 0);
        Due.hall(x, "blur 7 g=0;blur 2 g=1;read 1 b=2;blur 1 g=3");
        fraction(x, 0, 1, 0, 1);
        fraction(x, 0, 2, 1, 2);
        fraction(x, 0, 3, 9, 10);
        fraction(x, 0, 4, 24, 25);
        x.ride(0, false);
        fraction(x, 0, 1, 1, 2);
    }

    private static void where() {
        CaseElsewhere x = new CaseElsewhere();
        x.leads(0, 1, 4);
        x.bag(0, 0, 0, 4, 0);
        due.is("where(0, 0, 0, 0)", x.where(0, 0, 0, 0), 1);
        due.is("where(0, 0, 0, 1)", x.where(0, 0, 0, 1), 1);
        due.is("where(0, 0, 1, 0)", x.where(0, 0, 1, 0), 0);
        due.is("where(0, 0, 1, 1)", x.where(0, 0, 1, 1), 1);
        due.is("where(0, 1, 1, 0)", x.where(0, 1, 1, 0), 3);
        due.is("where(0, 1, 1, 1)", x.where(0, 1, 1, 1), 10);
        due.is("where(0, 3, 3, 0)", x.where(0, 3, 3, 0), 3);
        due.is("where(0, 3, 3, 1)", x.where(0, 3, 3, 1), 10);
        due.is("where(0, 3, 4, 0): THERE it stays", x.where(0, 3, 4, 0), 7);
        due.is("where(0, 3, 4, 1): THERE it stays", x.where(0, 3, 4, 1), 10);
        due.is("where(0, 6, 5, 0)", x.where(0, 6, 5, 0), 0);
        due.is("where(0, 6, 5, 1)", x.where(0, 6, 5, 1), 1);
        long no = CaseElsewhere.NO;
        int[][] bad = {{-1, 0, 0, 0}, {1, 0, 0, 0}, {0, -1, 0, 0}, {0, 7, 0, 0}, {0, 0, -1, 0}, {0, 0, 8, 0},
            {0, 0, 0, -1}, {0, 0, 0, 2}, {0, Integer.MAX_VALUE, 0, 0}, {0, 0, Integer.MIN_VALUE, 0}};
        for (int[] b : bad) {
            due.is("where of " + b[0] + ", " + b[1] + ", " + b[2] + ", " + b[3], x.where(b[0], b[1], b[2], b[3]), no);
        }
    }

    private static void soonest() {
        CaseElsewhere x = new CaseElsewhere();
        x.bag(0, 0, 0, 3, 0);
        due.is("soonest(0, 0)", x.soonest(0, 0), 3);
        due.is("soonest(0, 1): both do", x.soonest(0, 1), 0);
        x.leads(0, 1, 2);
        due.is("soonest(0, 0) by the SECOND", x.soonest(0, 0), 2);
        due.is("soonest(0, 1) by the SECOND", x.soonest(0, 1), 1);
        Due.hall(x, "slow 1 b=2");
        due.is("soonest(0, 0), slower", x.soonest(0, 0), 3);
        due.is("soonest(0, 1), slower", x.soonest(0, 1), 1);
        // the FIRST may be the sooner one though it takes more STEPS
        x.leads(1, 0, 3);
        x.leads(0, 1, 4);
        x.leads(4, 1, 3);
        Due.hall(x, "slow 5 b=4");
        due.is("soonest(0, 0), by 1", x.soonest(0, 0), 2);
        due.is("soonest(0, 1), by 1", x.soonest(0, 1), 0);
        Due.hall(x, "room 1");
        due.is("soonest(0, 1): two ways of as many MINUTES", x.soonest(0, 1), 0);
        x.set(0, 2, 3);
        due.is("soonest(0, 0), THERE", x.soonest(0, 0), 0);
        due.is("soonest(0, 1), THERE", x.soonest(0, 1), -5);
        x.leads(5, 0, 5);
        x.leads(5, 1, 5);
        x.set(0, 2, 5);
        due.is("soonest(0, 0), by none", x.soonest(0, 0), -5);
        due.is("soonest(0, 1), by none", x.soonest(0, 1), -5);
    }

    /** MINUTES that go with the STEPS gone: it may be sooner to go round first; 40 STEPS at most. */
    private static void soonestWaits() {
        CaseElsewhere x = new CaseElsewhere();
        x.leads(0, 0, 0);
        x.leads(0, 1, 1);
        x.leads(1, 0, 2);
        x.leads(1, 1, 2);
        x.bag(0, 0, 0, 2, 0);
        Due.hall(x, "slow 50 b=1&g<5");
        due.is("soonest(0, 0): round till it is quick", x.soonest(0, 0), 6);
        due.is("soonest(0, 1)", x.soonest(0, 1), 0);
        Due.hall(x, "slow 99 b=1&g<39");
        due.is("soonest(0, 0): the 40th STEP", x.soonest(0, 0), 40);
        Due.hall(x, "slow 99 b=1&g<40");
        due.is("soonest(0, 0): the 41st STEP is too late", x.soonest(0, 0), 101);
        due.is("soonest(0, 1): at once", x.soonest(0, 1), 1);
        x.ride(0, false);
        due.is("soonest(0, 0), a STEP later", x.soonest(0, 0), 40);
        due.is("soonest(0, 1), a STEP later", x.soonest(0, 1), 0);
        due.is("MINUTES behind soonest", x.of(0, 7), 1);
    }

    private static void ring() {
        CaseElsewhere x = new CaseElsewhere();
        x.bag(0, 0, 0, 4, 0);
        due.is("ring(0), all come THERE", x.ring(0), 0);
        x.leads(2, 0, 6);
        x.leads(7, 0, 6);
        x.leads(7, 1, 6);
        due.is("ring(0): 6 and 7 are never left", x.ring(0), 1 << 6 | 1 << 7);
        x.set(0, 2, 7);
        due.is("ring(0): that on which it is, too", x.ring(0), 1 << 6 | 1 << 7);
        x.set(0, 2, 4);
        due.is("ring(0), THERE", x.ring(0), 0);
        x.set(0, 2, 5);
        due.is("ring(0) from 5", x.ring(0), 1 << 5 | 1 << 6 | 1 << 7);
        // none goes on from the SLIP's BELT
        x.set(0, 2, 3);
        due.is("ring(0) from 3", x.ring(0), 0);
        // a SECOND that is never the nearer one is never gone to
        CaseElsewhere y = new CaseElsewhere();
        y.leads(0, 1, 5);
        y.leads(5, 0, 5);
        y.leads(5, 1, 5);
        y.bag(0, 0, 0, 3, 0);
        due.is("ring(0), a SECOND that no STEP goes to", y.ring(0), 0);
        y.leads(0, 0, 5);
        y.leads(0, 1, 1);
        due.is("ring(0), a FIRST that leads away", y.ring(0), 1 << 5);
    }

    private static void steps() {
        CaseElsewhere x = new CaseElsewhere();
        x.leads(0, 1, 4);
        x.bag(0, 0, 0, 5, 0);
        due.is("steps(0, 0)", x.steps(0, 0), 2);
        due.is("steps(0, 1)", x.steps(0, 1), 5);
        x.leads(3, 0, 1);
        due.is("steps(0, 0), a ring", x.steps(0, 0), 2);
        due.is("steps(0, 1), a ring", x.steps(0, 1), -5);
        x.set(0, 2, 5);
        due.is("steps(0, 0), THERE", x.steps(0, 0), 0);
        due.is("steps(0, 1), THERE", x.steps(0, 1), 0);
        x.set(0, 2, 6);
        due.is("steps(0, 0), from 6", x.steps(0, 0), 4);
        x.leads(0, 1, 1);
        x.leads(3, 1, 1);
        due.is("steps(0, 0), by none", x.steps(0, 0), -5);
        due.is("steps(0, 1), by none", x.steps(0, 1), -5);
    }

    private static void none() {
        CaseElsewhere x = new CaseElsewhere();
        x.bag(0, 0, 0, 1, 0);
        for (int n : new int[] {-1, 1, 6, Integer.MIN_VALUE, Integer.MAX_VALUE}) {
            due.is("soonest(" + n + ", 0)", x.soonest(n, 0), -1);
            due.is("ring(" + n + ")", x.ring(n), -1);
            due.is("steps(" + n + ", 0)", x.steps(n, 0), -1);
        }
        for (int n : new int[] {-1, 2, Integer.MIN_VALUE, Integer.MAX_VALUE}) {
            due.is("soonest(0, " + n + ")", x.soonest(0, n), -1);
            due.is("steps(0, " + n + ")", x.steps(0, n), -1);
        }
    }
}
