/** CHANGE, NEED and ROOM: the edges that their sentences name. */
public final class ChangesEdgesTest {
    private static final Due due = new Due();

    public static void main(String[] args) {
        changeOfOneStep();
        changeOfTwoSteps();
        changeOfSixSteps();
        changeOfSevenSteps();
        changeByNone();
        changeThere();
        changeIfAlwaysRead();
        changeTakesThenAndThere();
        changeAtNinetyNine();
        needByTenths();
        needAtNinetyNine();
        needThere();
        needByNone();
        roomThree();
        roomNumbers();
        roomNone();
        roomLast();
        roomByTorn();
        roomThereAlone();
        due.end();
    }

    /** A CASE on BELT 0 that is THERE by so many STEPS. */
    private static CaseElsewhere away(int steps, String text) {
        CaseElsewhere x = new CaseElsewhere();
        x.bag(0, 0, 0, steps, 0);
        if (!text.isEmpty()) {
            due.is("hall of " + text, Due.hall(x, text), 0);
        }
        return x;
    }

    private static void change(CaseElsewhere x, int n, long above, long below) {
        due.is("change(0, " + n + ", 0)", x.change(0, n, 0), above);
        due.is("change(0, " + n + ", 1)", x.change(0, n, 1), below);
    }

    /** "each STEP takes 0, 1 or 2 MINUTES more, each as likely". */
    private static void changeOfOneStep() {
        CaseElsewhere x = away(1, "");
        change(x, 0, 0, 1);
        change(x, 1, 1, 3);
        change(x, 2, 2, 3);
        change(x, 3, 1, 1);
        change(x, 4, 1, 1);
        change(x, 99, 1, 1);
    }

    /** "by itself": 1, 3, 6, 8, 9 of 9. */
    private static void changeOfTwoSteps() {
        CaseElsewhere x = away(2, "");
        change(x, 1, 0, 1);
        change(x, 2, 1, 9);
        change(x, 3, 1, 3);
        change(x, 4, 2, 3);
        change(x, 5, 8, 9);
        change(x, 6, 1, 1);
    }

    /** "(.. if it is not THERE by 6 STEPS)": by 6 it is. */
    private static void changeOfSixSteps() {
        CaseElsewhere x = away(6, "");
        int[] within = {1, 7, 28, 78, 168, 294, 435, 561, 651, 701, 722, 728};
        change(x, 5, 0, 1);
        for (int i = 0; i < within.length; i++) {
            int above = within[i];
            int below = 729;
            while (above % 3 == 0) {
                above /= 3;
                below /= 3;
            }
            change(x, 6 + i, above, below);
        }
        change(x, 18, 1, 1);
        change(x, 99, 1, 1);
        due.is("need(0, 10)", x.need(0, 10), 18);
        due.is("need(0, 1)", x.need(0, 1), 9);
    }

    /** "(0 by 1, if it is not THERE by 6 STEPS)": by 7 it is too late. */
    private static void changeOfSevenSteps() {
        CaseElsewhere x = away(7, "");
        for (int n = 0; n <= 99; n += 9) {
            change(x, n, 0, 1);
        }
        for (int p = 1; p <= 10; p++) {
            due.is("need(0, " + p + ") by 7 STEPS", x.need(0, p), -5);
        }
    }

    private static void changeByNone() {
        CaseElsewhere x = away(1, "");
        x.leads(0, 0, 0);
        x.leads(0, 1, 0);
        change(x, 0, 0, 1);
        change(x, 99, 0, 1);
        due.is("need(0, 1) by none", x.need(0, 1), -5);
    }

    /** THERE by no STEPS, in 0 MINUTES. */
    private static void changeThere() {
        CaseElsewhere x = away(0, "slow 99 b<9");
        change(x, 0, 1, 1);
        change(x, 99, 1, 1);
    }

    /** "if it always is READ": whatever SEEN is. */
    private static void changeIfAlwaysRead() {
        CaseElsewhere x = away(7, "blur 9 b<9");
        x.leads(0, 1, 7);
        due.is("SEEN", x.of(0, 8), 0);
        change(x, 1, 1, 3);
        change(x, 3, 1, 1);
        due.is("need(0, 10)", x.need(0, 10), 3);
    }

    /** TAKES of each BELT on the way, with the STEPS gone by then, and more MINUTES behind. */
    private static void changeTakesThenAndThere() {
        CaseElsewhere x = away(3, "slow 2 b=0&g=0;slow 4 b=1&g=1;slow 8 b=2&g=2;slow 70 b=3;slow 70 g>2");
        change(x, 16, 0, 1);
        change(x, 17, 1, 27);
        change(x, 18, 4, 27);
        change(x, 22, 26, 27);
        change(x, 23, 1, 1);
        x.ride(0, true);
        change(x, 13, 0, 1);
        change(x, 14, 1, 9);
        change(x, 18, 1, 1);
        due.is("MINUTES gone do not count", x.of(0, 7), 3);
    }

    /** "CHANGE of n MINUTES (0 .. 99)". */
    private static void changeAtNinetyNine() {
        CaseElsewhere x = away(1, "slow 96 b=0");
        change(x, 96, 0, 1);
        change(x, 97, 1, 3);
        change(x, 98, 2, 3);
        change(x, 99, 1, 1);
        Due.hall(x, "slow 98 b=0");
        change(x, 98, 0, 1);
        change(x, 99, 1, 3);
        Due.hall(x, "slow 99 b=0");
        change(x, 99, 0, 1);
    }

    /** "the least n (0 .. 99) by which that is p of ten or more (1 .. 10 ..)". */
    private static void needByTenths() {
        CaseElsewhere x = away(1, "");
        int[] one = {1, 1, 1, 2, 2, 2, 3, 3, 3, 3};
        CaseElsewhere y = away(2, "");
        int[] two = {2, 3, 3, 4, 4, 4, 5, 5, 6, 6};
        CaseElsewhere z = away(3, "");
        // 1, 4, 10, 17, 23, 26, 27 of 27 by 3 .. 9
        int[] three = {4, 5, 5, 6, 6, 6, 7, 7, 8, 9};
        for (int p = 1; p <= 10; p++) {
            due.is("need(0, " + p + ") by one", x.need(0, p), one[p - 1]);
            due.is("need(0, " + p + ") by two", y.need(0, p), two[p - 1]);
            due.is("need(0, " + p + ") by three", z.need(0, p), three[p - 1]);
        }
    }

    private static void needAtNinetyNine() {
        CaseElsewhere x = away(1, "slow 96 b=0");
        due.is("need(0, 3): 97", x.need(0, 3), 97);
        due.is("need(0, 6): 98", x.need(0, 6), 98);
        due.is("need(0, 10): 99", x.need(0, 10), 99);
        Due.hall(x, "slow 97 b=0");
        due.is("need(0, 6): 99", x.need(0, 6), 99);
        due.is("need(0, 7): 100 is too many", x.need(0, 7), -5);
        Due.hall(x, "slow 98 b=0");
        due.is("need(0, 3): 99", x.need(0, 3), 99);
        due.is("need(0, 4): 100 is too many", x.need(0, 4), -5);
        Due.hall(x, "slow 99 b=0");
        due.is("need(0, 1): 100 is too many", x.need(0, 1), -5);
    }

    private static void needThere() {
        CaseElsewhere x = away(0, "slow 99 b<9");
        for (int p = 1; p <= 10; p++) {
            due.is("need(0, " + p + "), THERE", x.need(0, p), 0);
        }
    }

    private static void needByNone() {
        CaseElsewhere x = away(1, "slow 99 b<9;slow 99 b<9");
        due.is("need(0, 1)", x.need(0, 1), -5);
        due.is("need(0, 10)", x.need(0, 10), -5);
    }

    /** CASES that are THERE, as many as told, with TORN 0. */
    private static CaseElsewhere there(int n, String text) {
        CaseElsewhere x = new CaseElsewhere();
        for (int i = 0; i < n; i++) {
            x.bag(i, i, 7 - i, 7 - i, 0);
        }
        if (!text.isEmpty()) {
            due.is("hall of " + text, Due.hall(x, text), 0);
        }
        return x;
    }

    private static void rooms(CaseElsewhere x, int all, int... with) {
        due.is("room(-1)", x.room(-1), all);
        for (int bag = 0; bag < with.length; bag++) {
            due.is("room(" + bag + ")", x.room(bag), with[bag]);
        }
    }

    /** "room (3 without)": without a HALL, and in one that tells none. */
    private static void roomThree() {
        rooms(there(0, ""), 0);
        rooms(there(1, ""), 1, 0);
        rooms(there(3, ""), 3, 0, 0, 0);
        rooms(there(4, ""), 4, 0, 0, 0, 1);
        rooms(there(6, ""), 6, 0, 0, 0, 1, 1, 1);
        rooms(there(6, "slow 1 b=0;read 2 b=0"), 6, 0, 0, 0, 1, 1, 1);
    }

    private static void roomNumbers() {
        rooms(there(6, "room 1"), 6, 0, 1, 2, 3, 4, 5);
        rooms(there(6, "room 01"), 6, 0, 1, 2, 3, 4, 5);
        rooms(there(6, "room 2"), 6, 0, 0, 1, 1, 2, 2);
        rooms(there(6, "room 4"), 6, 0, 0, 0, 0, 1, 1);
        rooms(there(6, "room 5"), 6, 0, 0, 0, 0, 0, 1);
        rooms(there(6, "room 6"), 6, 0, 0, 0, 0, 0, 0);
        rooms(there(6, "room 99"), 6, 0, 0, 0, 0, 0, 0);
    }

    /** "room 0: none goes: -5"; how many go in all, then: none. */
    private static void roomNone() {
        rooms(there(6, "room 0"), 0, -5, -5, -5, -5, -5, -5);
        rooms(there(2, "room 00"), 0, -5, -5);
        rooms(there(0, "room 0"), 0);
    }

    /** "the last one's n". */
    private static void roomLast() {
        rooms(there(3, "room 0;room 9;room 1"), 3, 0, 1, 2);
        rooms(there(3, "room 1;room 9"), 3, 0, 0, 0);
        rooms(there(3, "room 1;slow 2 b=0"), 3, 0, 1, 2);
        rooms(there(3, "room 2;room 0"), 0, -5, -5, -5);
        CaseElsewhere x = there(2, "room 1");
        Due.hall(x, "slow 1 b=0");
        rooms(x, 2, 0, 0);
    }

    /** "by TORN (the most first; of several the least number first)". */
    private static void roomByTorn() {
        CaseElsewhere x = there(6, "room 1");
        int[] torn = {0, 9, 4, 9, 4, 5};
        for (int i = 0; i < 6; i++) {
            x.set(i, 1, torn[i]);
        }
        rooms(x, 6, 5, 0, 3, 1, 4, 2);
        x.set(0, 1, 9);
        rooms(x, 6, 0, 1, 4, 2, 5, 3);
        Due.hall(x, "room 2");
        rooms(x, 6, 0, 0, 2, 1, 2, 1);
    }

    /** "all CASES that are THERE go", "-5: it is not THERE". */
    private static void roomThereAlone() {
        CaseElsewhere x = there(6, "room 1");
        x.set(0, 1, 9);
        x.set(0, 2, 0);
        x.set(3, 0, 0);
        rooms(x, 4, -5, 0, 1, -5, 2, 3);
        x.ride(3, true);
        due.is("room(3), still away", x.room(3), -5);
        x.set(0, 0, 0);
        rooms(x, 5, 0, 1, 2, -5, 3, 4);
        CaseElsewhere y = new CaseElsewhere();
        y.bag(0, 0, 0, 1, 0);
        rooms(y, 0, -5);
        y.ride(0, false);
        rooms(y, 1, 0);
    }
}
