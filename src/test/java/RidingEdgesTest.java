/** A STEP, BY, WHERE, SOONEST, RING, ALWAYS and NEVER: the edges that their sentences name. */
public final class RidingEdgesTest {
    private static final Due due = new Due();

    public static void main(String[] args) {
        bothAlike();
        fromNeither();
        fromOneAlone();
        fewestSteps();
        notRead();
        minutesOfTheBeltLeft();
        thereItStays();
        readIsNotSeen();
        byNoSteps();
        bySixSteps();
        byAtTheBounds();
        lowestTerms();
        byGoesOnFromNow();
        byOfTaken();
        whereOfAll();
        whereThere();
        soonestOfNone();
        soonestFirst();
        soonestInForty();
        soonestByMinutes();
        soonestNeverGone();
        ringBits();
        ringByRead();
        alwaysAndNever();
        wrapOfSixty();
        due.end();
    }

    /** Two ways from BELT 0: by the FIRST and by the SECOND; a CASE on 0. */
    private static CaseElsewhere fork(int first, int second, int slip) {
        CaseElsewhere x = new CaseElsewhere();
        x.leads(0, 0, first);
        x.leads(0, 1, second);
        x.bag(0, 0, 0, slip, 0);
        return x;
    }

    private static void fraction(String call, long above, long below, long wantAbove, long wantBelow) {
        due.is(call + ", above", above, wantAbove);
        due.is(call + ", below", below, wantBelow);
    }

    private static void by(CaseElsewhere x, int bag, int n, long above, long below) {
        fraction("by(" + bag + ", " + n + ")", x.by(bag, n, 0), x.by(bag, n, 1), above, below);
    }

    private static void where(CaseElsewhere x, int bag, int n, int belt, long above, long below) {
        String call = "where(" + bag + ", " + n + ", " + belt + ")";
        fraction(call, x.where(bag, n, belt, 0), x.where(bag, n, belt, 1), above, below);
    }

    /** "of both alike .. : the FIRST". */
    private static void bothAlike() {
        CaseElsewhere x = fork(2, 5, 7);
        x.leads(2, 1, 7);
        x.leads(5, 1, 7);
        due.is("ride(0, true): both alike", x.ride(0, true), 2);
        CaseElsewhere y = fork(5, 2, 7);
        y.leads(2, 1, 7);
        y.leads(5, 1, 7);
        due.is("ride(0, true): both alike", y.ride(0, true), 5);
        due.is("ride(0, true): one BELT", fork(4, 4, 7).ride(0, true), 4);
    }

    /** "if from neither it is any: the FIRST". */
    private static void fromNeither() {
        for (int first = 1; first <= 2; first++) {
            CaseElsewhere x = fork(first, 3 - first, 7);
            for (int belt = 1; belt <= 2; belt++) {
                x.leads(belt, 0, belt);
                x.leads(belt, 1, 0);
            }
            due.is("ride(0, true): from neither", x.ride(0, true), first);
            due.is("STEPS", x.of(0, 6), 1);
            due.is("ride(0, true): from neither, on and on", x.ride(0, true), first);
        }
    }

    /** From one of them it is none: the other one, however far. */
    private static void fromOneAlone() {
        CaseElsewhere x = fork(1, 2, 1);
        x.set(0, 0, 0);
        x.set(0, 2, 3);
        x.leads(3, 0, 4);
        x.leads(3, 1, 5);
        x.leads(4, 0, 4);
        x.leads(4, 1, 4);
        due.is("ride(0, true): from the SECOND alone", x.ride(0, true), 5);
        x.set(0, 2, 3);
        x.leads(3, 0, 5);
        x.leads(3, 1, 4);
        due.is("ride(0, true): from the FIRST alone", x.ride(0, true), 5);
    }

    /** "from which it is the fewest STEPS (NEAR)": one fewer is enough, on either side. */
    private static void fewestSteps() {
        due.is("ride(0, true): the SECOND is one nearer", fork(1, 2, 7).ride(0, true), 2);
        due.is("ride(0, true): the FIRST is one nearer", fork(2, 1, 7).ride(0, true), 2);
        due.is("ride(0, true): the SECOND is it", fork(1, 7, 7).ride(0, true), 7);
        due.is("ride(0, true): the FIRST is it", fork(7, 1, 7).ride(0, true), 7);
        due.is("ride(0, true): the FIRST is far round", fork(4, 3, 3).ride(0, true), 3);
        CaseElsewhere x = fork(3, 6, 5);
        x.leads(6, 1, 5);
        due.is("ride(0, true): NEAR by a SECOND", x.ride(0, true), 6);
        CaseElsewhere y = fork(0, 1, 7);
        due.is("ride(0, true): the FIRST is where it was", y.ride(0, true), 1);
    }

    /** "else to the FIRST". */
    private static void notRead() {
        due.is("ride(0, false): the SECOND is it", fork(1, 7, 7).ride(0, false), 1);
        due.is("ride(0, false): the FIRST is it", fork(7, 1, 7).ride(0, false), 7);
        due.is("ride(0, false): the FIRST leads to itself", fork(0, 7, 7).ride(0, false), 0);
    }

    /** "MINUTES are TAKES of the BELT that it leaves more, STEPS 1 more". */
    private static void minutesOfTheBeltLeft() {
        CaseElsewhere x = fork(1, 1, 3);
        Due.hall(x, "slow 2 b=0;slow 10 b=1;slow 50 b=2&g=1;slow 7 b=3");
        due.is("TAKES", x.of(0, 9), 3);
        x.ride(0, false);
        due.is("MINUTES", x.of(0, 7), 3);
        due.is("STEPS", x.of(0, 6), 1);
        x.ride(0, true);
        due.is("MINUTES", x.of(0, 7), 14);
        due.is("STEPS", x.of(0, 6), 2);
        x.ride(0, true);
        due.is("MINUTES: g is 2 by now", x.of(0, 7), 15);
        due.is("STEPS", x.of(0, 6), 3);
        due.is("THERE", x.of(0, 10), 1);
        x.set(0, 2, 0);
        due.is("MINUTES stay with set", x.of(0, 7), 15);
        due.is("STEPS stay with set", x.of(0, 6), 3);
    }

    /** "On its SLIP's BELT it stays: THERE" - "STATE: it is THERE". */
    private static void thereItStays() {
        CaseElsewhere x = fork(1, 2, 0);
        due.is("ride(0, true), THERE", x.ride(0, true), -3);
        due.is("ride(0, false), THERE", x.ride(0, false), -3);
        due.is("its BELT", x.of(0, 2), 0);
        due.is("its STEPS", x.of(0, 6), 0);
        due.is("its MINUTES", x.of(0, 7), 0);
        x.set(0, 0, 1);
        due.is("ride(0, false), no more THERE", x.ride(0, false), 1);
        due.is("ride(0, false), THERE again", x.ride(0, false), -3);
    }

    /** "RIDE by hand: a STEP, told whether it is READ": SEEN does not matter. */
    private static void readIsNotSeen() {
        CaseElsewhere x = fork(1, 7, 7);
        Due.hall(x, "blur 9 b<9");
        due.is("SEEN", x.of(0, 8), 0);
        due.is("ride(0, true), SEEN 0", x.ride(0, true), 7);
        CaseElsewhere y = fork(1, 7, 7);
        Due.hall(y, "read 9 b<9");
        due.is("SEEN", y.of(0, 8), 10);
        due.is("ride(0, false), SEEN 10", y.ride(0, false), 1);
    }

    /** "BY of a CASE in n STEPS (0 .. 6)". */
    private static void byNoSteps() {
        by(fork(1, 7, 7), 0, 0, 0, 1);
        by(fork(1, 7, 0), 0, 0, 1, 1);
        for (int n = 0; n <= 6; n++) {
            by(fork(1, 7, 0), 0, n, 1, 1);
        }
        CaseElsewhere x = fork(0, 0, 7);
        for (int n = 0; n <= 6; n++) {
            by(x, 0, n, 0, 1);
        }
    }

    /** One that is THERE by 6 STEPS exactly, and one that would be by 7. */
    private static void bySixSteps() {
        CaseElsewhere x = fork(1, 1, 6);
        by(x, 0, 5, 0, 1);
        by(x, 0, 6, 1, 1);
        where(x, 0, 5, 5, 1, 1);
        where(x, 0, 6, 6, 1, 1);
        x.set(0, 0, 7);
        by(x, 0, 6, 0, 1);
        where(x, 0, 6, 6, 1, 1);
        where(x, 0, 6, 7, 0, 1);
    }

    /** "if at each STEP it is READ with odds of SEEN of ten": of 0 and of 10, too. */
    private static void byAtTheBounds() {
        CaseElsewhere x = fork(0, 7, 7);
        Due.hall(x, "blur 7 b<9");
        by(x, 0, 6, 0, 1);
        where(x, 0, 6, 0, 1, 1);
        Due.hall(x, "read 3 b<9");
        by(x, 0, 1, 1, 1);
        where(x, 0, 1, 0, 0, 1);
        Due.hall(x, "blur 6 b<9");
        by(x, 0, 1, 1, 10);
        Due.hall(x, "read 2 b<9");
        by(x, 0, 1, 9, 10);
        CaseElsewhere y = fork(7, 1, 7);
        by(y, 0, 1, 1, 1);
    }

    /** "a fraction in lowest terms". */
    private static void lowestTerms() {
        CaseElsewhere x = fork(0, 7, 7);
        by(x, 0, 1, 7, 10);
        by(x, 0, 2, 91, 100);
        by(x, 0, 3, 973, 1000);
        by(x, 0, 4, 9919, 10000);
        by(x, 0, 5, 99757, 100000);
        by(x, 0, 6, 999271, 1000000);
        where(x, 0, 6, 0, 729, 1000000);
        Due.hall(x, "blur 2 b<9");
        by(x, 0, 1, 1, 2);
        by(x, 0, 6, 63, 64);
        where(x, 0, 6, 0, 1, 64);
        Due.hall(x, "blur 3 b<9");
        by(x, 0, 1, 2, 5);
        by(x, 0, 2, 16, 25);
        Due.hall(x, "read 1 b<9");
        by(x, 0, 1, 4, 5);
        where(x, 0, 6, 0, 1, 15625);
    }

    /** "goes on from how all is": SEEN of each BELT on the way, with the STEPS gone by then. */
    private static void byGoesOnFromNow() {
        CaseElsewhere x = fork(1, 7, 7);
        x.leads(1, 0, 0);
        x.leads(1, 1, 7);
        Due.hall(x, "blur 6 b=0;read 3 b=1;blur 9 b=1&g>3;read 2 b=0&g>1");
        by(x, 0, 1, 1, 10);
        by(x, 0, 2, 1, 1);
        Due.hall(x, "blur 6 g=0;blur 5 g=1;blur 4 g=2");
        by(x, 0, 1, 1, 10);
        by(x, 0, 2, 7, 25);
        by(x, 0, 3, 62, 125);
        x.ride(0, false);
        by(x, 0, 1, 1, 5);
        by(x, 0, 2, 11, 25);
        due.is("its BELT behind by", x.of(0, 2), 1);
        due.is("its STEPS behind by", x.of(0, 6), 1);
    }

    /** "TAKEN: .. (0, if it is on BELT v)": on the way, too. */
    private static void byOfTaken() {
        CaseElsewhere x = new CaseElsewhere();
        for (int belt = 0; belt <= 3; belt++) {
            x.leads(belt, 1, 7);
        }
        x.bag(5, 2, 1, 7, 0);
        by(x, 0, 1, 1, 5);
        by(x, 0, 2, 1, 5);
        by(x, 0, 3, 9, 25);
        where(x, 0, 2, 3, 4, 5);
    }

    /** "WHERE: how likely it is on a BELT then": all BELTS together are 1. */
    private static void whereOfAll() {
        CaseElsewhere x = fork(1, 4, 6);
        x.leads(2, 0, 0);
        x.leads(5, 0, 2);
        x.leads(5, 1, 0);
        for (int n = 0; n <= 6; n++) {
            long sum = 0;
            for (int belt = 0; belt <= 7; belt++) {
                sum += x.where(0, n, belt, 0) * (1000000 / x.where(0, n, belt, 1));
            }
            due.is("where(0, " + n + ", ..) together", sum, 1000000);
            due.is("where of its SLIP is by, above", x.where(0, n, 6, 0), x.by(0, n, 0));
            due.is("where of its SLIP is by, below", x.where(0, n, 6, 1), x.by(0, n, 1));
        }
    }

    /** "(THERE it stays)". */
    private static void whereThere() {
        CaseElsewhere x = fork(1, 7, 7);
        where(x, 0, 1, 7, 7, 10);
        where(x, 0, 2, 7, 7, 10);
        where(x, 0, 2, 0, 0, 1);
        where(x, 0, 6, 7, 7, 10);
        CaseElsewhere y = fork(1, 7, 0);
        for (int n = 0; n <= 6; n++) {
            where(y, 0, n, 0, 1, 1);
            where(y, 0, n, 1, 0, 1);
        }
    }

    /** "(-5: by none)", "-5: there is none, or none is needed". */
    private static void soonestOfNone() {
        CaseElsewhere x = fork(1, 2, 0);
        due.is("soonest(0, 0), THERE", x.soonest(0, 0), 0);
        due.is("soonest(0, 1), THERE", x.soonest(0, 1), -5);
        CaseElsewhere y = fork(0, 0, 1);
        due.is("soonest(0, 0), by none", y.soonest(0, 0), -5);
        due.is("soonest(0, 1), by none", y.soonest(0, 1), -5);
        CaseElsewhere z = fork(1, 1, 7);
        z.leads(6, 0, 0);
        z.leads(6, 1, 0);
        due.is("soonest(0, 0), a ring", z.soonest(0, 0), -5);
        due.is("soonest(0, 1), a ring", z.soonest(0, 1), -5);
        z.leads(6, 1, 7);
        due.is("soonest(0, 0), a ring with a way out", z.soonest(0, 0), 7);
        due.is("soonest(0, 1), a ring with a way out", z.soonest(0, 1), 0);
        z.set(0, 2, 6);
        due.is("soonest(0, 0) by the way out", z.soonest(0, 0), 1);
        due.is("soonest(0, 1) by the way out", z.soonest(0, 1), 1);
    }

    /** "whether the first of these is READ (1) or not (0: also if both do)". */
    private static void soonestFirst() {
        due.is("soonest(0, 1): READ and not alike", fork(7, 1, 7).soonest(0, 1), 0);
        due.is("soonest(0, 1): READ alone", fork(1, 7, 7).soonest(0, 1), 1);
        CaseElsewhere x = fork(1, 2, 5);
        x.leads(2, 1, 5);
        Due.hall(x, "slow 1 b=2");
        due.is("soonest(0, 0): 0, 2, 5", x.soonest(0, 0), 3);
        due.is("soonest(0, 1): 0, 2, 5 alone", x.soonest(0, 1), 1);
        x.leads(1, 0, 4);
        due.is("soonest(0, 0): two ways", x.soonest(0, 0), 3);
        due.is("soonest(0, 1): both do", x.soonest(0, 1), 0);
        Due.hall(x, "slow 2 b=2");
        due.is("soonest(0, 0): 0, 1, 4, 5", x.soonest(0, 0), 3);
        due.is("soonest(0, 1): not READ alone", x.soonest(0, 1), 0);
    }

    /** "(40 STEPS at most ..)": on a BELT that it may stay on as long as it likes. */
    private static void soonestInForty() {
        for (int quick = 37; quick <= 41; quick++) {
            CaseElsewhere x = fork(0, 1, 2);
            Due.hall(x, "slow 90 b=1&g<" + quick);
            boolean isInTime = quick <= 39;
            due.is("soonest(0, 0), quick from " + quick + " on", x.soonest(0, 0), isInTime ? quick + 1 : 92);
            due.is("soonest(0, 1), quick from " + quick + " on", x.soonest(0, 1), isInTime ? 0 : 1);
        }
        CaseElsewhere y = fork(0, 7, 7);
        Due.hall(y, "slow 99 b=0&g<39;slow 99 b=0&g<38");
        due.is("soonest(0, 0): to stay takes as long", y.soonest(0, 0), 199);
        due.is("soonest(0, 1)", y.soonest(0, 1), 1);
    }

    /** "the fewest MINUTES", not the fewest STEPS. */
    private static void soonestByMinutes() {
        CaseElsewhere x = fork(1, 6, 7);
        due.is("soonest(0, 0)", x.soonest(0, 0), 2);
        Due.hall(x, "slow 4 b=6");
        due.is("soonest(0, 0): 6 takes 5", x.soonest(0, 0), 6);
        Due.hall(x, "slow 9 b=6");
        due.is("soonest(0, 0): each way goes by 6", x.soonest(0, 0), 11);
        x.leads(5, 0, 7);
        due.is("soonest(0, 0): by 5", x.soonest(0, 0), 6);
        due.is("soonest(0, 1): by 5", x.soonest(0, 1), 0);
        Due.hall(x, "slow 3 b=6");
        due.is("soonest(0, 0): by 6", x.soonest(0, 0), 5);
        due.is("soonest(0, 1): by 6", x.soonest(0, 1), 1);
        Due.hall(x, "slow 50 b=7;slow 1 b=0");
        due.is("soonest(0, 0): TAKES of the last BELT do not count", x.soonest(0, 0), 3);
        CaseElsewhere y = fork(1, 1, 7);
        Due.hall(y, "slow 99 b<9;slow 99 b<9;slow 99 b<9");
        due.is("soonest(0, 0) of many MINUTES", y.soonest(0, 0), 7 * 298);
    }

    /** "by STEPS, each READ or not": a SECOND that is not the nearer one is gone to by none, however quick it is. */
    private static void soonestNeverGone() {
        CaseElsewhere x = fork(1, 2, 7);
        x.leads(1, 0, 7);
        x.leads(2, 0, 3);
        x.leads(3, 0, 7);
        Due.hall(x, "slow 50 b=1");
        due.is("soonest(0, 0): the FIRST is nearer, the SECOND quicker", x.soonest(0, 0), 52);
        due.is("soonest(0, 1): the FIRST is nearer, the SECOND quicker", x.soonest(0, 1), 0);
        x.leads(2, 0, 7);
        due.is("soonest(0, 0): both are as near, the SECOND quicker", x.soonest(0, 0), 52);
        due.is("soonest(0, 1): both are as near, the SECOND quicker", x.soonest(0, 1), 0);
        x.leads(1, 0, 4);
        x.leads(4, 0, 7);
        due.is("soonest(0, 0): the SECOND is nearer and quicker", x.soonest(0, 0), 2);
        due.is("soonest(0, 1): the SECOND is nearer and quicker", x.soonest(0, 1), 1);
    }

    /** "RING: .. (that on which it is, too) .. as bits". */
    private static void ringBits() {
        CaseElsewhere x = fork(1, 1, 7);
        x.leads(6, 0, 0);
        x.leads(6, 1, 0);
        due.is("ring(0) of 0 .. 6", x.ring(0), 127);
        due.is("ring(0), THERE", ringOn(x, 7), 0);
        due.is("ring(0) from 3", ringOn(x, 3), 127);
        x.leads(3, 1, 7);
        due.is("ring(0), a way out", ringOn(x, 0), 0);
        CaseElsewhere y = fork(0, 0, 1);
        due.is("ring(0) of 0 alone", y.ring(0), 1);
        y.set(0, 2, 7);
        y.leads(7, 0, 7);
        y.leads(7, 1, 7);
        due.is("ring(0) of 7 alone", y.ring(0), 128);
        y.set(0, 2, 5);
        due.is("ring(0) of 5 .. 7", y.ring(0), 128 + 64 + 32);
        y.set(0, 0, 6);
        due.is("ring(0): THERE by 6", y.ring(0), 0);
        due.is("ring(0), THERE", ringOn(y, 6), 0);
    }

    private static int ringOn(CaseElsewhere x, int belt) {
        x.set(0, 2, belt);
        return x.ring(0);
    }

    /** "on which it may come by any STEPS, READ or not": by a SECOND that is gone to when READ, too. */
    private static void ringByRead() {
        CaseElsewhere x = fork(0, 2, 3);
        x.leads(2, 0, 5);
        x.leads(2, 1, 3);
        x.leads(5, 0, 5);
        x.leads(5, 1, 5);
        due.is("ring(0): 5 by READ, then not", x.ring(0), 32);
        x.leads(2, 0, 3);
        due.is("ring(0): 5 no more", x.ring(0), 0);
        x.leads(2, 1, 5);
        due.is("ring(0): a SECOND that is never gone to", x.ring(0), 0);
        CaseElsewhere y = fork(1, 6, 7);
        y.leads(1, 0, 1);
        y.leads(1, 1, 2);
        y.leads(2, 0, 2);
        y.leads(2, 1, 2);
        due.is("ring(0): from 1 and 2 by none, 2 is not come to", y.ring(0), 2);
        y.leads(1, 0, 2);
        y.leads(1, 1, 1);
        due.is("ring(0): 1 and 2", y.ring(0), 6);
    }

    /** "how many STEPS (0 .. 40) till it is THERE, if it is always READ (-5: not by then); NEVER: likewise". */
    private static void alwaysAndNever() {
        CaseElsewhere x = fork(1, 7, 7);
        due.is("steps(0, 0)", x.steps(0, 0), 1);
        due.is("steps(0, 1): the most", x.steps(0, 1), 7);
        x.set(0, 2, 7);
        due.is("steps(0, 0), THERE", x.steps(0, 0), 0);
        due.is("steps(0, 1), THERE", x.steps(0, 1), 0);
        x.leads(6, 0, 0);
        x.leads(6, 1, 6);
        x.set(0, 2, 1);
        due.is("steps(0, 0): the most", x.steps(0, 0), 7);
        due.is("steps(0, 1): a ring", x.steps(0, 1), -5);
        x.leads(0, 1, 3);
        due.is("steps(0, 0): by none", x.steps(0, 0), -5);
        CaseElsewhere y = fork(7, 1, 7);
        Due.hall(y, "blur 9 b<9;slow 99 b<9");
        due.is("steps(0, 0): SEEN and TAKES do not matter", y.steps(0, 0), 1);
        due.is("steps(0, 1): SEEN and TAKES do not matter", y.steps(0, 1), 1);
    }

    /** "g STEPS gone modulo 60": what is asked goes on from 59 to 0. */
    private static void wrapOfSixty() {
        CaseElsewhere x = fork(0, 7, 7);
        for (int i = 0; i < 59; i++) {
            x.ride(0, false);
        }
        Due.hall(x, "blur 6 g=59;read 2 g=0;blur 7 g>0&g<59;slow 5 g=59;slow 8 g=0");
        by(x, 0, 1, 1, 10);
        by(x, 0, 2, 91, 100);
        by(x, 0, 3, 91, 100);
        where(x, 0, 2, 0, 9, 100);
        due.is("TAKES at 59", x.of(0, 9), 6);
        due.is("soonest(0, 0) from 59", x.soonest(0, 0), 6);
        x.leads(0, 1, 6);
        due.is("soonest(0, 0) from 59 by two", x.soonest(0, 0), 6 + 9);
        due.is("need(0, 10) from 59 by two", x.need(0, 10), 6 + 9 + 4);
        due.is("change(0, 14) from 59 by two", x.change(0, 14, 0), 0);
        due.is("change(0, 15) from 59 by two", x.change(0, 15, 1), 9);
        x.ride(0, false);
        due.is("TAKES at 60", x.of(0, 9), 9);
        due.is("MINUTES at 60", x.of(0, 7), 59 + 6);
    }
}
