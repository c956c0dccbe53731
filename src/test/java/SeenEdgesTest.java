/** What a TEST compares, SEEN of ten and TAKES: their bounds, KIND by KIND. */
public final class SeenEdgesTest {
    private static final Due due = new Due();
    private static final int CASE = 0, READ = 1, HANDLED = 2, LOST = 3, TAGGED = 4, TAKEN = 5, ROUND = 6;

    public static void main(String[] args) {
        letterOfBelt();
        letterOfSlip();
        letterOfKind();
        letterOfTorn();
        letterOfNumber();
        letterOfSteps();
        seenOfCase();
        seenOfRead();
        seenOfHandled();
        seenOfLost();
        seenOfTagged();
        seenOfTaken();
        seenOfRound();
        boundAtTheEnd();
        together();
        takes();
        due.end();
    }

    /** A CASE as told, alone, in a HALL of a text ("": none). */
    private static CaseElsewhere one(int kind, int v, int belt, int slip, int torn, String text) {
        CaseElsewhere x = new CaseElsewhere();
        x.bag(kind, v, belt, slip, 0);
        x.set(0, 1, torn);
        if (!text.isEmpty()) {
            due.is("hall of " + text, Due.hall(x, text), 0);
        }
        return x;
    }

    private static void seen(int kind, int v, int torn, String text, int want) {
        CaseElsewhere x = one(kind, v, 3, 5, torn, text);
        due.is("SEEN of KIND " + kind + ", v " + v + ", TORN " + torn + " in " + text, x.of(0, 8), want);
    }

    /** Which of < = > hold, for a number less, the same and greater. */
    private static void compared(CaseElsewhere x, int bag, char letter, int value) {
        for (int n = Math.max(0, value - 1); n <= value + 1; n++) {
            String text = "slow 1 " + letter + "<" + n + ";slow 2 " + letter + "=" + n + ";slow 4 " + letter + ">" + n;
            x.image();
            Due.hall(x, text);
            int want = value < n ? 1 : value == n ? 2 : 4;
            due.is("TAKES by " + text + " of " + value, x.of(bag, 9), 1 + want);
        }
    }

    /** "of a CASE on a BELT b the BELT". */
    private static void letterOfBelt() {
        for (int belt = 0; belt <= 7; belt++) {
            compared(one(CASE, 1, belt, 4, 2, ""), 0, 'b', belt);
        }
    }

    private static void letterOfSlip() {
        for (int slip = 0; slip <= 7; slip++) {
            compared(one(CASE, 1, 4, slip, 2, ""), 0, 'd', slip);
        }
    }

    private static void letterOfKind() {
        for (int kind = 0; kind <= 6; kind++) {
            compared(one(kind, 8, 4, 7, 9, ""), 0, 'k', kind);
        }
    }

    private static void letterOfTorn() {
        for (int torn = 0; torn <= 9; torn++) {
            compared(one(CASE, 1, 4, 7, torn, ""), 0, 't', torn);
        }
    }

    private static void letterOfNumber() {
        for (int i = 0; i <= 5; i++) {
            CaseElsewhere x = new CaseElsewhere();
            for (int bag = 0; bag <= i; bag++) {
                x.bag(6, 7, 7, 6, 0);
            }
            compared(x, i, 'c', i);
        }
    }

    /** "g STEPS gone modulo 60": 59, then 0 again; 119, then 0 again. */
    private static void letterOfSteps() {
        int[] all = {0, 1, 58, 59, 60, 61, 119, 120, 121, 179, 180};
        for (int steps : all) {
            CaseElsewhere x = one(CASE, 1, 0, 7, 2, "");
            x.leads(0, 0, 0);
            for (int i = 0; i < steps; i++) {
                due.is("ride " + i, x.ride(0, false), 0);
            }
            due.is("STEPS are not modulo 60", x.of(0, 6), steps);
            compared(x, 0, 'g', steps % 60);
        }
    }

    /** "7, and the n of all read whose E holds, less those of all blur, together .. Then 0 .. 10, else the bound". */
    private static void seenOfCase() {
        seen(CASE, 9, 9, "", 7);
        seen(CASE, 0, 0, "read 2 b=3", 9);
        seen(CASE, 0, 0, "read 3 b=3", 10);
        seen(CASE, 0, 0, "read 4 b=3", 10);
        seen(CASE, 0, 0, "read 99 b=3", 10);
        seen(CASE, 0, 0, "read 3 b=4", 7);
        seen(CASE, 0, 0, "blur 6 b=3", 1);
        seen(CASE, 0, 0, "blur 7 b=3", 0);
        seen(CASE, 0, 0, "blur 8 b=3", 0);
        seen(CASE, 0, 0, "blur 99 b=3", 0);
        seen(CASE, 0, 0, "blur 7 b=4", 7);
    }

    /** "READ: 1 more". */
    private static void seenOfRead() {
        seen(READ, 9, 9, "", 8);
        seen(READ, 0, 0, "read 1 b=3", 9);
        seen(READ, 0, 0, "read 2 b=3", 10);
        seen(READ, 0, 0, "read 3 b=3", 10);
        seen(READ, 0, 0, "blur 7 b=3", 1);
        seen(READ, 0, 0, "blur 8 b=3", 0);
        seen(READ, 0, 0, "blur 9 b=3", 0);
    }

    /** "HANDLED: v in place of all that". */
    private static void seenOfHandled() {
        for (int v = 0; v <= 9; v++) {
            seen(HANDLED, v, 9, "", v);
            seen(HANDLED, v, 0, "read 5 b=3", v);
            seen(HANDLED, v, 0, "blur 99 b=3", v);
        }
        due.is("SEEN of HANDLED on BELT v", one(HANDLED, 3, 3, 5, 0, "").of(0, 8), 3);
    }

    /** "LOST: TORN less". */
    private static void seenOfLost() {
        for (int torn = 0; torn <= 9; torn++) {
            seen(LOST, 9, torn, "", Math.max(0, 7 - torn));
            seen(LOST, 9, torn, "read 3 b=3", Math.max(0, 10 - torn));
            seen(LOST, 9, torn, "read 12 b=3", Math.min(10, 19 - torn));
        }
    }

    /** "TAGGED: 1 and v more". */
    private static void seenOfTagged() {
        for (int v = 0; v <= 9; v++) {
            seen(TAGGED, v, 9, "", Math.min(10, 8 + v));
            seen(TAGGED, v, 0, "blur 7 b=3", 1 + v);
            seen(TAGGED, v, 0, "blur 8 b=3", v);
            seen(TAGGED, v, 0, "blur 12 b=3", Math.max(0, v - 4));
            seen(TAGGED, v, 0, "blur 17 b=3", 0);
        }
    }

    /** "TAKEN: v in place of all that (0, if it is on BELT v)". */
    private static void seenOfTaken() {
        for (int v = 0; v <= 9; v++) {
            for (int belt = 0; belt <= 7; belt++) {
                CaseElsewhere x = one(TAKEN, v, belt, 7 - belt, 9, "blur 5 b<9");
                due.is("SEEN of TAKEN, v " + v + " on " + belt, x.of(0, 8), v == belt ? 0 : v);
            }
        }
        CaseElsewhere y = one(TAKEN, 5, 3, 5, 0, "");
        due.is("SEEN of TAKEN, v its SLIP", y.of(0, 8), 5);
        y.set(0, 2, 5);
        due.is("SEEN of TAKEN on BELT v, THERE", y.of(0, 8), 0);
    }

    /** "ROUND: as LOST, the half of it (cut)". */
    private static void seenOfRound() {
        for (int torn = 0; torn <= 9; torn++) {
            seen(ROUND, 9, torn, "", Math.max(0, 7 - torn) / 2);
            seen(ROUND, 9, torn, "read 2 b=3", Math.max(0, 9 - torn) / 2);
        }
        seen(ROUND, 0, 0, "read 12 b=3", 9);
        seen(ROUND, 0, 0, "read 13 b=3", 10);
        seen(ROUND, 0, 0, "read 14 b=3", 10);
        seen(ROUND, 0, 0, "read 15 b=3", 10);
        seen(ROUND, 0, 9, "read 22 b=3", 10);
        seen(ROUND, 0, 9, "read 21 b=3", 9);
        seen(ROUND, 0, 0, "blur 5 b=3", 1);
        seen(ROUND, 0, 0, "blur 6 b=3", 0);
        seen(ROUND, 0, 0, "blur 8 b=3", 0);
        seen(ROUND, 0, 0, "blur 10 b=3", 0);
    }

    /** "Then 0 .. 10, else the bound": what is ahead of that is not bounded. */
    private static void boundAtTheEnd() {
        seen(CASE, 0, 0, "read 99 b=3;blur 97 b=3", 9);
        seen(CASE, 0, 0, "blur 97 b=3;read 99 b=3", 9);
        seen(READ, 0, 0, "blur 10 b=3", 0);
        seen(LOST, 0, 9, "read 8 b=3", 6);
        seen(TAGGED, 9, 0, "blur 10 b=3", 7);
        seen(ROUND, 0, 4, "read 9 b=3", 6);
        seen(ROUND, 0, 9, "read 12 b=3", 5);
    }

    /** "the n of all .. whose E holds .. together". */
    private static void together() {
        seen(CASE, 0, 0, "read 1 b=3;read 1 d=5;read 9 b=5", 9);
        seen(CASE, 0, 0, "blur 1 b=3;blur 1 d=5;blur 9 b=5", 5);
        seen(CASE, 0, 0, "read 1 b=3;blur 2 b=3;read 3 b=3;blur 4 b=3", 5);
        seen(CASE, 0, 0, "slow 9 b=3;room 9", 7);
        CaseElsewhere x = one(CASE, 0, 3, 5, 0, "read 1 b=3;blur 2 c=1");
        x.bag(CASE, 0, 4, 5, 0);
        due.is("SEEN of CASE 0", x.of(0, 8), 8);
        due.is("SEEN of CASE 1", x.of(1, 8), 5);
    }

    /** "TAKES of a BELT: 1, and the n of all slow whose E holds, together". */
    private static void takes() {
        CaseElsewhere x = one(CASE, 0, 3, 5, 0, "slow 0 b=3");
        due.is("TAKES by slow 0", x.of(0, 9), 1);
        Due.hall(x, "slow 99 b=3;slow 99 d=5;slow 99 k=0;slow 99 t=0;slow 99 g=0;slow 99 c=0;slow 99 b<9;slow 99 b<8");
        due.is("TAKES by eight slow 99", x.of(0, 9), 1 + 8 * 99);
        due.is("ride", x.ride(0, false), 4);
        due.is("MINUTES of eight slow 99", x.of(0, 7), 1 + 8 * 99);
        due.is("TAKES with a STEP gone, elsewhere", x.of(0, 9), 1 + 6 * 99);
        for (int kind = CASE; kind <= ROUND; kind++) {
            CaseElsewhere y = one(kind, 9, 3, 5, 9, "slow 5 b=3;read 9 b=3;blur 8 b=3");
            due.is("TAKES of KIND " + kind, y.of(0, 9), 6);
            y.set(0, 2, 5);
            due.is("TAKES of KIND " + kind + ", THERE", y.of(0, 9), 1);
        }
        CaseElsewhere z = one(CASE, 0, 5, 5, 0, "slow 5 b=5");
        due.is("TAKES where it is THERE", z.of(0, 9), 6);
    }
}
