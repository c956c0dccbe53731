/** Promises 28 to 31: act, trace, taken, count. */
public final class ActsTest {
    private static final Due due = new Due();

    public static void main(String[] args) {
        plain();
        kinds();
        wraps();
        none();
        taken();
        count();
        due.end();
    }

    /** A CASE of each KIND by its number, with v 3. */
    private static CaseElsewhere seven(int from) {
        CaseElsewhere x = new CaseElsewhere();
        for (int kind = from; kind < from + 6; kind++) {
            x.bag(kind, 3, 0, 1, 0);
        }
        return x;
    }

    private static void answer(CaseElsewhere x, int bag, int act, int n, int want, int... bodies) {
        String call = "act(" + bag + ", " + act + ", " + n + ")";
        due.is(call, x.act(bag, act, n), want);
        due.is("count(5) of " + call, x.count(5), bodies.length);
        for (int i = 0; i < bodies.length; i++) {
            due.is("trace(" + i + ") of " + call, x.trace(i), bodies[i]);
        }
        due.is("trace behind the last of " + call, x.trace(bodies.length), -1);
        due.is("trace(-1) of " + call, x.trace(-1), -1);
    }

    private static void plain() {
        CaseElsewhere x = seven(0);
        answer(x, 0, 0, 5, 5, 10);
        answer(x, 0, 1, 5, 2, 11, 10);
        answer(x, 0, 2, 5, 4, 12, 11, 10);
    }

    /** CASES 0 .. 5 of KINDS 1 .. 6. */
    private static void kinds() {
        CaseElsewhere x = seven(1);
        // READ, i 0
        answer(x, 0, 0, 5, 5, 10);
        answer(x, 0, 1, 5, 2 ^ 6, 20, 11, 10);
        answer(x, 0, 2, 5, (2 ^ 6) * 2, 12, 20, 11, 10);
        // HANDLED, i 1
        answer(x, 1, 0, 5, 16, 30, 10);
        answer(x, 1, 1, 5, 13, 11, 30, 10);
        answer(x, 1, 2, 5, 26, 12, 11, 30, 10);
        // LOST, i 2: waits(5) * 2 + waits(1)
        answer(x, 2, 0, 5, 7, 10);
        answer(x, 2, 1, 5, 4, 11, 10);
        answer(x, 2, 2, 5, 8 + 0, 40, 12, 11, 10, 11, 10);
        // TAGGED, i 3: rides -(x + 3); waits (rides(x + 1) - 3) ^ 6
        answer(x, 3, 0, 5, -8, 50, 10);
        answer(x, 3, 1, 5, (-9 - 3) ^ 6, 51, 20, 11, 50, 10);
        answer(x, 3, 2, 5, ((-9 - 3) ^ 6) * 2, 12, 51, 20, 11, 50, 10);
        // TAKEN, i 4: rides 3x + 4
        answer(x, 4, 0, 5, 19, 30, 10);
        answer(x, 4, 1, 5, 16, 11, 30, 10);
        answer(x, 4, 2, 5, (3 + 4 - 3) * 2, 60, 12, 11, 30, 10);
        // ROUND, i 5: rides (x + 5) ^ 3; waits rides(x) - 3 and 2 + 5
        answer(x, 5, 0, 5, 10 ^ 3, 71, 10);
        answer(x, 5, 1, 5, (10 ^ 3) - 3 + 7, 70, 11, 71, 10, 10);
        answer(x, 5, 2, 5, ((10 ^ 3) - 3 + 7) * 2 + ((6 ^ 3) - 3 + 7),
            40, 12, 70, 11, 71, 10, 10, 70, 11, 71, 10, 10);
        due.is("BELT behind acts", x.of(5, 2), 0);
    }

    private static void wraps() {
        CaseElsewhere x = seven(1);
        int most = Integer.MAX_VALUE;
        answer(x, 3, 0, most - 2, Integer.MIN_VALUE, 50, 10);
        answer(x, 1, 0, most, most * 3 + 1, 30, 10);
        answer(x, 0, 2, Integer.MIN_VALUE, ((Integer.MIN_VALUE - 3) ^ 6) * 2, 12, 20, 11, 10);
        answer(x, 4, 2, Integer.MIN_VALUE, ((Integer.MIN_VALUE - 4) * 3 + 4 - 3) * 2, 60, 12, 11, 30, 10);
    }

    private static void none() {
        CaseElsewhere x = seven(0);
        int[][] bad = {{-1, 0}, {6, 0}, {0, -1}, {0, 3}, {Integer.MIN_VALUE, 0}, {0, Integer.MAX_VALUE}};
        for (int[] b : bad) {
            x.act(0, 2, 1);
            answer(x, b[0], b[1], 7, 0);
        }
        x.act(5, 2, 1);
        due.is("trace(20)", x.trace(20), -1);
        due.is("trace of the least number", x.trace(Integer.MIN_VALUE), -1);
        due.is("trace of the most", x.trace(Integer.MAX_VALUE), -1);
    }

    private static void taken() {
        int[] above = {-1, 0, 0, 0, 1, 2, 3};
        for (int kind = 0; kind <= 6; kind++) {
            CaseElsewhere x = new CaseElsewhere();
            x.bag(kind, 0, 0, 1, 0);
            for (int k = 0; k <= 6; k++) {
                boolean isOne = k == kind || k == above[kind] || k == 0;
                due.is("KIND " + kind + " taken for " + k, x.taken(0, k), isOne ? kind : -12);
            }
            due.is("taken(1, 0)", x.taken(1, 0), -11);
            due.is("taken(-1, 0)", x.taken(-1, 0), -11);
            for (int bad : new int[] {-1, 7, Integer.MIN_VALUE, Integer.MAX_VALUE}) {
                due.is("taken(0, " + bad + ")", x.taken(0, bad), -2);
                due.is("taken(1, " + bad + ")", x.taken(1, bad), -2);
            }
        }
    }

    private static void count() {
        CaseElsewhere x = new CaseElsewhere();
        x.bag(0, 0, 0, 1, 0);
        x.owner(0, 0);
        x.owner(0, 0);
        for (int i = 0; i < 3; i++) {
            Due.hall(x, "room 1");
        }
        Due.feed(x, "room ");
        x.film(0);
        x.film(0);
        x.film(0);
        x.film(0);
        x.act(0, 1, 0);
        int[] want = {1, 2, 3, 4, 5, 2};
        for (int what = 0; what < want.length; what++) {
            due.is("count(" + what + ")", x.count(what), want[what]);
        }
        for (int bad : new int[] {-1, 6, Integer.MIN_VALUE, Integer.MAX_VALUE}) {
            due.is("count(" + bad + ")", x.count(bad), -2);
        }
    }
}
