/** Promises 20 to 22: change, need, room. */
public final class ChangesTest {
    private static final Due due = new Due();

    public static void main(String[] args) {
        change();
        changeWithTakes();
        changeByNone();
        need();
        room();
        roomOfHalls();
        due.end();
    }

    private static void change() {
        CaseElsewhere x = new CaseElsewhere();
        x.bag(0, 0, 0, 2, 0);
        fraction(x, 0, 0, 0, 1);
        fraction(x, 0, 1, 0, 1);
        fraction(x, 0, 2, 1, 9);
        fraction(x, 0, 3, 1, 3);
        fraction(x, 0, 4, 2, 3);
        fraction(x, 0, 5, 8, 9);
        fraction(x, 0, 6, 1, 1);
        fraction(x, 0, 99, 1, 1);
        x.bag(0, 0, 5, 5, 0);
        fraction(x, 1, 0, 1, 1);
        long no = CaseElsewhere.NO;
        int[][] bad = {{-1, 0, 0}, {2, 0, 0}, {0, -1, 0}, {0, 100, 0}, {0, 0, -1}, {0, 0, 2},
            {Integer.MIN_VALUE, 0, 0}, {0, Integer.MAX_VALUE, 0}};
        for (int[] b : bad) {
            due.is("change(" + b[0] + ", " + b[1] + ", " + b[2] + ")", x.change(b[0], b[1], b[2]), no);
        }
    }

    private static void fraction(CaseElsewhere x, int bag, int n, long above, long below) {
        due.is("change(" + bag + ", " + n + ", 0)", x.change(bag, n, 0), above);
        due.is("change(" + bag + ", " + n + ", 1)", x.change(bag, n, 1), below);
    }

    private static void changeWithTakes() {
        CaseElsewhere x = new CaseElsewhere();
        x.leads(0, 1, 4);
        x.bag(2, 0, 0, 5, 0);
        Due.hall(x, "slow 3 b=4&g=1;slow 8 b=5;slow 20 b=1");
        // always READ (though SEEN is 0): 1 and 4 MINUTES, and 0 to 4 more
        fraction(x, 0, 4, 0, 1);
        fraction(x, 0, 5, 1, 9);
        fraction(x, 0, 9, 1, 1);
        x.ride(0, false);
        // from 1 by 2, 3, 4 (now with STEPS gone 4)
        fraction(x, 0, 21 + 1 + 1 + 1, 1, 81);
        fraction(x, 0, 23, 0, 1);
        fraction(x, 0, 32, 1, 1);
        fraction(x, 0, 31, 80, 81);
    }

    private static void changeByNone() {
        CaseElsewhere x = new CaseElsewhere();
        x.bag(0, 0, 0, 6, 0);
        fraction(x, 0, 6, 1, 729);
        fraction(x, 0, 17, 728, 729);
        fraction(x, 0, 18, 1, 1);
        due.is("need by 6 STEPS", x.need(0, 10), 18);
        x.bag(0, 0, 7, 6, 0);
        fraction(x, 1, 99, 0, 1);
        due.is("need by 7 STEPS", x.need(1, 1), -5);
        x.leads(3, 0, 3);
        x.leads(3, 1, 3);
        fraction(x, 0, 99, 0, 1);
        due.is("need by no STEPS", x.need(0, 1), -5);
    }

    private static void need() {
        CaseElsewhere x = new CaseElsewhere();
        x.bag(0, 0, 0, 2, 0);
        // 1, 3, 6, 8, 9 of 9 by 2 .. 6 MINUTES
        int[] want = {2, 3, 3, 4, 4, 4, 5, 5, 6, 6};
        for (int p = 1; p <= 10; p++) {
            due.is("need(0, " + p + ")", x.need(0, p), want[p - 1]);
        }
        x.bag(0, 0, 2, 2, 0);
        due.is("need, THERE", x.need(1, 10), 0);
        for (int p : new int[] {0, 11, -1, Integer.MIN_VALUE, Integer.MAX_VALUE}) {
            due.is("need(0, " + p + ")", x.need(0, p), -2);
            due.is("need(2, " + p + ")", x.need(2, p), -1);
        }
        due.is("need(-1, 1)", x.need(-1, 1), -1);
        x.leads(7, 0, 7);
        x.leads(7, 1, 1);
        x.bag(2, 0, 7, 2, 0);
        due.is("need, if it always is READ", x.need(2, 1), 2);
        Due.hall(x, "slow 97 b=0");
        due.is("need by 99: it takes 99 and more", x.need(0, 1), 99);
        due.is("need by 99: it takes too much", x.need(0, 2), -5);
        Due.hall(x, "slow 98 b=0");
        due.is("need by none", x.need(0, 1), -5);
    }

    private static void room() {
        CaseElsewhere x = new CaseElsewhere();
        due.is("room(-1) without CASES", x.room(-1), 0);
        for (int i = 0; i < 6; i++) {
            x.bag(0, 0, i == 3 ? 0 : 7, 7, 0);
        }
        int[] torn = {2, 5, 2, 9, 0, 5};
        for (int i = 0; i < 6; i++) {
            x.set(i, 1, torn[i]);
        }
        due.is("room(-1)", x.room(-1), 5);
        due.is("room(3), not THERE", x.room(3), -5);
        // they go in the order 1, 5, 0, 2, 4
        int[] by3 = {0, 0, 1, -5, 1, 0};
        int[] by1 = {2, 0, 3, -5, 4, 1};
        int[] by2 = {1, 0, 1, -5, 2, 0};
        rooms(x, by3);
        Due.hall(x, "room 1");
        rooms(x, by1);
        Due.hall(x, "room 2");
        rooms(x, by2);
        Due.hall(x, "room 0");
        rooms(x, new int[] {-5, -5, -5, -5, -5, -5});
        due.is("room(-1), no room", x.room(-1), 0);
        for (int n : new int[] {-2, 6, Integer.MIN_VALUE, Integer.MAX_VALUE}) {
            due.is("room(" + n + ")", x.room(n), -10001);
        }
    }

    private static void rooms(CaseElsewhere x, int[] want) {
        for (int i = 0; i < want.length; i++) {
            due.is("room(" + i + ")", x.room(i), want[i]);
        }
    }

    private static void roomOfHalls() {
        CaseElsewhere x = new CaseElsewhere();
        for (int i = 0; i < 5; i++) {
            x.bag(0, 0, 7, 7, 0);
        }
        due.is("room(3), without a HALL 3", x.room(3), 1);
        Due.hall(x, "room 9;room 2;read 1 b=1");
        due.is("room(3): the last one's n", x.room(3), 1);
        due.is("room(4): the last one's n", x.room(4), 2);
        Due.hall(x, "read 1 b=1");
        due.is("room(4): 3 without", x.room(4), 1);
        due.is("room(2): 3 without", x.room(2), 0);
        Due.hall(x, "room 10");
        due.is("room(4), two digits", x.room(4), 0);
    }
}
