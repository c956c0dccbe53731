import java.util.Arrays;

/** The FILM, COULD and JUDGED: the edges that their sentences name. */
public final class FilmEdgesTest {
    private static final Due due = new Due();

    public static void main(String[] args) {
        twelveRows();
        noneThen();
        couldWithoutRows();
        couldRowZero();
        couldEitherWay();
        couldNeverGone();
        couldThereStays();
        couldLastRow();
        couldFromNowOn();
        couldOfEach();
        judgedAll();
        judgedFirst();
        judgedTooShort();
        judgedPlaces();
        judgedNothing();
        judgedNoCases();
        judgedOtherSorts();
        judgedLowestBits();
        due.end();
    }

    private static void film(CaseElsewhere x, int... belts) {
        x.film(-1);
        for (int i = 0; i < belts.length; i++) {
            due.is("film(" + belts[i] + ")", x.film(belts[i]), i + 1);
        }
    }

    private static void could(CaseElsewhere x, int want, int... belts) {
        film(x, belts);
        due.is("could(0) behind " + Arrays.toString(belts), x.could(0), want);
    }

    /** "BELTS (12 at most)". */
    private static void twelveRows() {
        CaseElsewhere x = new CaseElsewhere();
        x.bag(0, 0, 0, 5, 0);
        for (int i = 1; i <= 12; i++) {
            due.is("film, the " + i + "th", x.film(Math.min(i - 1, 5)), i);
            due.is("count(3)", x.count(3), i);
            due.is("could(0)", x.could(0), -5);
        }
        due.is("film, the 13th", x.film(6), -4);
        due.is("film(8), the 13th: NONE ahead of FULL", x.film(8), -1);
        due.is("count(3)", x.count(3), 12);
        due.is("could(0)", x.could(0), -5);
    }

    /** "(-1: none then, 0)": of a full one, of an empty one. */
    private static void noneThen() {
        CaseElsewhere x = new CaseElsewhere();
        due.is("film(-1), none yet", x.film(-1), 0);
        due.is("count(3)", x.count(3), 0);
        for (int i = 0; i < 12; i++) {
            x.film(7);
        }
        due.is("film(-1) of a full one", x.film(-1), 0);
        due.is("count(3)", x.count(3), 0);
        due.is("film(0)", x.film(0), 1);
        x.bag(0, 0, 0, 5, 0);
        due.is("could(0): nothing is left of what was", x.could(0), -5);
        due.is("film(-2)", x.film(-2), -1);
        due.is("count(3)", x.count(3), 1);
    }

    private static void couldWithoutRows() {
        CaseElsewhere x = new CaseElsewhere();
        x.bag(0, 0, 3, 5, 0);
        x.bag(0, 0, 5, 5, 0);
        due.is("could(0) without rows", x.could(0), -5);
        due.is("could(1) without rows, THERE", x.could(1), -5);
    }

    /** "row 0 is where it is now". */
    private static void couldRowZero() {
        CaseElsewhere x = new CaseElsewhere();
        x.bag(0, 0, 3, 5, 0);
        for (int belt = 0; belt <= 7; belt++) {
            could(x, belt == 3 ? -5 : 0, belt);
            could(x, belt == 3 ? -5 : 0, belt, (belt + 1) % 8);
        }
    }

    /** "READ or not". */
    private static void couldEitherWay() {
        CaseElsewhere x = new CaseElsewhere();
        x.leads(0, 0, 2);
        x.leads(0, 1, 6);
        x.bag(0, 0, 0, 7, 0);
        for (int belt = 0; belt <= 7; belt++) {
            could(x, belt == 2 || belt == 6 ? -5 : 1, 0, belt);
        }
        could(x, -5, 0, 2, 3, 4);
        could(x, -5, 0, 6, 7, 7);
        could(x, 2, 0, 6, 3);
        could(x, 2, 0, 2, 7);
    }

    /** A SECOND that is not the nearer one is gone to by no STEP; a FIRST always is. */
    private static void couldNeverGone() {
        CaseElsewhere x = new CaseElsewhere();
        x.leads(0, 0, 6);
        x.leads(0, 1, 2);
        x.bag(0, 0, 0, 7, 0);
        could(x, 1, 0, 2);
        could(x, -5, 0, 6);
        x.leads(0, 0, 2);
        x.leads(0, 1, 6);
        could(x, -5, 0, 2);
        x.leads(6, 0, 6);
        x.leads(6, 1, 6);
        could(x, 1, 0, 6);
    }

    /** "THERE it stays". */
    private static void couldThereStays() {
        CaseElsewhere x = new CaseElsewhere();
        x.bag(0, 0, 5, 5, 0);
        could(x, -5, 5, 5, 5, 5, 5, 5, 5, 5, 5, 5, 5, 5);
        could(x, 1, 5, 6);
        could(x, 2, 5, 5, 6);
        could(x, 11, 5, 5, 5, 5, 5, 5, 5, 5, 5, 5, 5, 6);
        x.set(0, 2, 3);
        could(x, -5, 3, 4, 5, 5);
        could(x, 3, 3, 4, 5, 6);
        could(x, 1, 3, 3);
        could(x, 2, 3, 4, 4);
    }

    /** The first row that it could not be, whatever comes behind it. */
    private static void couldLastRow() {
        CaseElsewhere x = new CaseElsewhere();
        x.leads(3, 0, 0);
        x.bag(0, 0, 0, 7, 0);
        could(x, -5, 0, 1, 2, 3, 0, 1, 2, 3, 0, 1, 2, 3);
        could(x, 11, 0, 1, 2, 3, 0, 1, 2, 3, 0, 1, 2, 2);
        could(x, 4, 0, 1, 2, 3, 1, 2, 3, 0, 1, 2, 3, 0);
        could(x, 2, 0, 1, 1, 1, 1);
    }

    /** "from now on": rides, set and leads count, STEPS gone do not. */
    private static void couldFromNowOn() {
        CaseElsewhere x = new CaseElsewhere();
        x.bag(0, 0, 0, 7, 0);
        film(x, 1, 2);
        due.is("could(0)", x.could(0), 0);
        x.ride(0, false);
        due.is("could(0) behind a ride", x.could(0), -5);
        x.leads(1, 0, 3);
        due.is("could(0) behind leads", x.could(0), 1);
        x.leads(1, 0, 2);
        x.set(0, 0, 1);
        due.is("could(0) behind set: THERE", x.could(0), 1);
    }

    /** One FILM, asked of each CASE by itself. */
    private static void couldOfEach() {
        CaseElsewhere x = new CaseElsewhere();
        for (int i = 0; i < 6; i++) {
            x.bag(0, 0, i < 3 ? 2 : 4, 2 + i, 0);
        }
        film(x, 2, 3, 4, 4);
        int[] want = {1, 2, -5, 0, 0, 0};
        for (int bag = 0; bag < 6; bag++) {
            due.is("could(" + bag + ")", x.could(bag), want[bag]);
        }
    }

    /** CASES on BELTS 7, 0, 3. */
    private static CaseElsewhere three() {
        CaseElsewhere x = new CaseElsewhere();
        x.bag(0, 0, 7, 0, 0);
        x.bag(0, 0, 0, 0, 0);
        x.bag(0, 0, 3, 0, 0);
        return x;
    }

    /** "-5: none": the row may go on behind the CASES, and begin ahead of the place. */
    private static void judgedAll() {
        CaseElsewhere x = three();
        Due.bytes(x, 0, 7, 0, 3);
        due.is("judge(0, 0)", x.judge(0, 0), -5);
        Due.bytes(x, 5, 9, 9, 7, 0, 3, 9);
        due.is("judge(5, 2)", x.judge(5, 2), -5);
        x.tape(1, 0, 60);
        x.item(1, 57, 7);
        x.item(1, 59, 3);
        due.is("judge(1, 57): up to the last place", x.judge(1, 57), -5);
        due.is("judge(1, 58)", x.judge(1, 58), 0);
    }

    /** "the first of which it is otherwise". */
    private static void judgedFirst() {
        CaseElsewhere x = three();
        Due.bytes(x, 0, 6, 1, 2);
        due.is("judge(0, 0)", x.judge(0, 0), 0);
        x.item(0, 0, 7);
        due.is("judge(0, 0)", x.judge(0, 0), 1);
        x.item(0, 1, 0);
        due.is("judge(0, 0)", x.judge(0, 0), 2);
        x.item(0, 2, 3);
        due.is("judge(0, 0)", x.judge(0, 0), -5);
        x.ride(2, false);
        due.is("judge(0, 0) behind a ride", x.judge(0, 0), 2);
    }

    /** "100 and how many were looked at, if the row ends ahead of that". */
    private static void judgedTooShort() {
        CaseElsewhere x = three();
        x.tape(0, 0, 0);
        due.is("judge of an empty row", x.judge(0, 0), 100);
        Due.bytes(x, 0, 7);
        due.is("judge of a row of one", x.judge(0, 0), 101);
        Due.bytes(x, 0, 7, 0);
        due.is("judge of a row of two", x.judge(0, 0), 102);
        due.is("judge of a row of two, from 1 on", x.judge(0, 1), 0);
        due.is("judge of a row of two, from 2 on", x.judge(0, 2), 100);
        Due.bytes(x, 0, 7, 1);
        due.is("judge: otherwise ahead of the end", x.judge(0, 0), 1);
        CaseElsewhere y = Made.full();
        y.tape(0, 0, 5);
        for (int i = 0; i < 5; i++) {
            y.item(0, i, y.of(i, 2));
        }
        due.is("judge of five of six", y.judge(0, 0), 105);
    }

    /** "(or the place is below 0 ..)"; beyond the end likewise. */
    private static void judgedPlaces() {
        CaseElsewhere x = three();
        Due.bytes(x, 0, 7, 0, 3);
        for (int place : new int[] {-1, -2, -3, Integer.MIN_VALUE, 3, 4, 60, Integer.MAX_VALUE, Integer.MAX_VALUE - 1}) {
            due.is("judge(0, " + place + ")", x.judge(0, place), 100);
        }
    }

    /** "(.. or the TAPE holds nothing)". */
    private static void judgedNothing() {
        CaseElsewhere x = three();
        for (int tape = 0; tape <= 5; tape++) {
            due.is("judge(" + tape + ", 0)", x.judge(tape, 0), 100);
            due.is("judge(" + tape + ", -1)", x.judge(tape, -1), 100);
        }
        x.tape(0, 0, 3);
        x.tape(0, -1, 0);
        due.is("judge of a TAPE that holds nothing again", x.judge(0, 0), 100);
    }

    /** "-5: .. there is none to look at". */
    private static void judgedNoCases() {
        CaseElsewhere x = new CaseElsewhere();
        due.is("judge, nothing there", x.judge(0, 0), -5);
        due.is("judge, nothing there, below 0", x.judge(0, -1), -5);
        x.tape(0, 0, 1);
        due.is("judge of a row", x.judge(0, 0), -5);
        due.is("judge of a row, behind its end", x.judge(0, 2), -5);
        x.tape(0, 1, 1);
        due.is("judge of shorts", x.judge(0, 0), -12);
        due.is("judge of no TAPE", x.judge(6, 0), -1);
    }

    /** "CAST: it is no row of bytes". */
    private static void judgedOtherSorts() {
        CaseElsewhere x = three();
        for (int sort = 1; sort <= 4; sort++) {
            x.tape(0, sort, 3);
            due.is("judge of sort " + sort, x.judge(0, 0), -12);
            x.tape(0, sort, 0);
            due.is("judge of sort " + sort + ", empty", x.judge(0, 0), -12);
        }
        x.tape(0, 0, 3);
        due.is("judge of bytes again", x.judge(0, 0), 0);
    }

    /** An item is what is left of it: its lowest bits. */
    private static void judgedLowestBits() {
        CaseElsewhere x = three();
        Due.bytes(x, 0, 7 - 256, 256, 3 + 65536);
        due.is("judge(0, 0)", x.judge(0, 0), -5);
        x.item(0, 1, 128);
        due.is("judge(0, 0)", x.judge(0, 0), 1);
        x.item(0, 1, -1);
        due.is("judge(0, 0)", x.judge(0, 0), 1);
    }
}
