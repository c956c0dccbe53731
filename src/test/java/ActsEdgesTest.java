/** ACTS, THE TRACE and CASES taken for others: the edges that their sentences name. */
public final class ActsEdgesTest {
    private static final Due due = new Due();
    private static final int LEAST = Integer.MIN_VALUE, MOST = Integer.MAX_VALUE;

    public static void main(String[] args) {
        ridesWrap();
        waitsWrap();
        tellsWrap();
        leftOn();
        traceOfNone();
        traceOfTheLatest();
        traceIsKept();
        numberAndV();
        takenForEach();
        due.end();
    }

    /** The CASE 5 of six, of a KIND, with v 9. */
    private static CaseElsewhere sixth(int kind) {
        CaseElsewhere x = new CaseElsewhere();
        for (int i = 0; i < 5; i++) {
            x.bag(0, 1, 0, 1, 0);
        }
        x.bag(kind, 9, 0, 1, 0);
        return x;
    }

    /** What the bodies say, done by Java's own wrap-around. */
    private static int rides(int kind, int x) {
        switch (kind) {
            case 2: case 5: return x * 3 + 5;
            case 4: return -(x + 5);
            case 6: return x + 5 ^ 9;
            default: return x + 5;
        }
    }

    private static int waits(int kind, int x) {
        switch (kind) {
            case 1: return rides(1, x) - 9 ^ 6;
            case 4: return rides(4, x + 1) - 9 ^ 6;
            case 6: return rides(6, x) - 9 + 2 + 5;
            default: return rides(kind, x) - 9;
        }
    }

    private static int tells(int kind, int x) {
        switch (kind) {
            case 3: case 6: return waits(kind, x) * 2 + waits(kind, 1);
            case 5: return waits(5, x - 5) * 2;
            default: return waits(kind, x) * 2;
        }
    }

    private static final int[] NUMBERS = {0, 1, -1, 5, -5, 6, 9, 2, LEAST, LEAST + 1, LEAST + 4, LEAST + 5, MOST, MOST - 1,
        MOST - 4, MOST - 5, MOST / 3, MOST / 3 + 1, LEAST / 3 - 1, 1 << 30, 3 << 29, LEAST / 2, LEAST / 2 - 1, 715827883};

    /** "ACTS of a CASE with x (wrapping)". */
    private static void ridesWrap() {
        for (int kind = 0; kind <= 6; kind++) {
            CaseElsewhere x = sixth(kind);
            for (int n : NUMBERS) {
                due.is("rides of KIND " + kind + " with " + n, x.act(5, 0, n), rides(kind, n));
            }
        }
        due.is("rides of CASE with the most", sixth(0).act(5, 0, MOST), LEAST + 4);
        due.is("rides of TAGGED with what turns to the least", sixth(4).act(5, 0, MOST - 4), LEAST);
    }

    private static void waitsWrap() {
        for (int kind = 0; kind <= 6; kind++) {
            CaseElsewhere x = sixth(kind);
            for (int n : NUMBERS) {
                due.is("waits of KIND " + kind + " with " + n, x.act(5, 1, n), waits(kind, n));
            }
        }
        due.is("waits of CASE with the least", sixth(0).act(5, 1, LEAST), MOST - 3);
    }

    private static void tellsWrap() {
        for (int kind = 0; kind <= 6; kind++) {
            CaseElsewhere x = sixth(kind);
            for (int n : NUMBERS) {
                due.is("tells of KIND " + kind + " with " + n, x.act(5, 2, n), tells(kind, n));
            }
        }
        due.is("tells of CASE with 2 to the 30th", sixth(0).act(5, 2, 1 << 30), LEAST - 8);
    }

    /** "all that stands in a body is done from the left on": the TRACE tells. */
    private static void leftOn() {
        int[][][] want = {
            {{10}, {11, 10}, {12, 11, 10}},
            {{10}, {20, 11, 10}, {12, 20, 11, 10}},
            {{30, 10}, {11, 30, 10}, {12, 11, 30, 10}},
            {{10}, {11, 10}, {40, 12, 11, 10, 11, 10}},
            {{50, 10}, {51, 20, 11, 50, 10}, {12, 51, 20, 11, 50, 10}},
            {{30, 10}, {11, 30, 10}, {60, 12, 11, 30, 10}},
            {{71, 10}, {70, 11, 71, 10, 10}, {40, 12, 70, 11, 71, 10, 10, 70, 11, 71, 10, 10}},
        };
        for (int kind = 0; kind <= 6; kind++) {
            for (int act = 0; act <= 2; act++) {
                CaseElsewhere x = sixth(kind);
                x.act(5, act, 3);
                int[] bodies = want[kind][act];
                due.is("bodies of KIND " + kind + ", act " + act, x.count(5), bodies.length);
                for (int i = 0; i < bodies.length; i++) {
                    due.is("trace(" + i + ") of KIND " + kind + ", act " + act, x.trace(i), bodies[i]);
                }
                due.is("trace(-1)", x.trace(-1), -1);
                due.is("trace(" + bodies.length + ")", x.trace(bodies.length), -1);
            }
        }
    }

    /** Ahead of the first act() there is none; what is refused leaves none. */
    private static void traceOfNone() {
        CaseElsewhere x = sixth(6);
        due.is("count(5) ahead of an act()", x.count(5), 0);
        due.is("trace(0) ahead of an act()", x.trace(0), -1);
        int[][] none = {{6, 0}, {-1, 0}, {5, 3}, {5, -1}, {6, 3}, {LEAST, 0}, {MOST, 0}, {5, LEAST}, {5, MOST}};
        for (int[] n : none) {
            due.is("act(5, 2, 1)", x.act(5, 2, 1), tells(6, 1));
            due.is("count(5)", x.count(5), 12);
            due.is("act(" + n[0] + ", " + n[1] + ", 7)", x.act(n[0], n[1], 7), 0);
            due.is("count(5) behind it", x.count(5), 0);
            due.is("trace(0) behind it", x.trace(0), -1);
        }
    }

    /** "in the latest act()": a shorter one leaves nothing of a longer one. */
    private static void traceOfTheLatest() {
        CaseElsewhere x = sixth(6);
        x.act(5, 2, 1);
        x.act(0, 1, 1);
        due.is("count(5)", x.count(5), 2);
        due.is("trace(0)", x.trace(0), 11);
        due.is("trace(1)", x.trace(1), 10);
        for (int i = 2; i <= 20; i++) {
            due.is("trace(" + i + ")", x.trace(i), -1);
        }
        due.is("an act of another CASE", x.act(1, 0, 1), 2);
        due.is("count(5)", x.count(5), 1);
    }

    /** The longest that there is: twelve bodies, all kept, whatever is called behind it but act(). */
    private static void traceIsKept() {
        CaseElsewhere x = sixth(6);
        x.act(5, 2, 1);
        x.ride(5, true);
        x.set(5, 2, 0);
        x.image();
        x.undo();
        x.taken(5, 0);
        due.is("count(5)", x.count(5), 12);
        due.is("trace(0)", x.trace(0), 40);
        due.is("trace(11)", x.trace(11), 10);
        due.is("trace(12)", x.trace(12), -1);
        due.is("trace(19)", x.trace(19), -1);
        due.is("trace(20)", x.trace(20), -1);
    }

    /** "i its number", v its own: 0 and the most of each. */
    private static void numberAndV() {
        CaseElsewhere x = new CaseElsewhere();
        x.bag(6, 0, 0, 1, 0);
        due.is("rides of 0 with v 0", x.act(0, 0, 7), 7);
        due.is("waits of 0 with v 0", x.act(0, 1, 7), 9);
        for (int i = 1; i < 6; i++) {
            x.bag(6, 9, 0, 1, 0);
            due.is("rides of " + i + " with v 9", x.act(i, 0, 7), 7 + i ^ 9);
        }
        CaseElsewhere y = new CaseElsewhere();
        y.bag(5, 9, 0, 1, 0);
        y.bag(5, 0, 0, 1, 0);
        due.is("tells of 0 with v 9", y.act(0, 2, 2), (6 - 9) * 2);
        due.is("tells of 1 with v 0", y.act(1, 2, 2), (3 + 1) * 2);
    }

    /** "A CASE taken for one of KIND k (0 .. 6), or one under that: its KIND". */
    private static void takenForEach() {
        int[] under = {0b0000001, 0b0000011, 0b0000101, 0b0001001, 0b0010011, 0b0100101, 0b1001001};
        for (int kind = 0; kind <= 6; kind++) {
            CaseElsewhere x = sixth(kind);
            for (int k = 0; k <= 6; k++) {
                due.is("KIND " + kind + " taken for " + k, x.taken(5, k), (under[kind] >> k & 1) == 1 ? kind : -12);
            }
            due.is("taken(5, -1)", x.taken(5, -1), -2);
            due.is("taken(5, 7)", x.taken(5, 7), -2);
            due.is("taken(6, 7): BAD ahead of NOTHING", x.taken(6, 7), -2);
            due.is("taken(6, 0)", x.taken(6, 0), -11);
            due.is("taken(-1, 0)", x.taken(-1, 0), -11);
        }
    }
}
