/** Promises 23 to 25: film, could, judge. */
public final class FilmsTest {
    private static final Due due = new Due();

    public static void main(String[] args) {
        film();
        could();
        judge();
        judgeEdges();
        due.end();
    }

    private static void film() {
        CaseElsewhere x = new CaseElsewhere();
        for (int none : new int[] {-2, 8, Integer.MIN_VALUE, Integer.MAX_VALUE}) {
            due.is("film(" + none + ")", x.film(none), -1);
        }
        due.is("film(-1), none yet", x.film(-1), 0);
        for (int i = 1; i <= 12; i++) {
            due.is("film, the " + i + "th", x.film(i % 8), i);
        }
        due.is("film, the 13th", x.film(0), -4);
        due.is("film(8) of a full one", x.film(8), -1);
        due.is("count(3)", x.count(3), 12);
        due.is("film(-1)", x.film(-1), 0);
        due.is("count(3) behind film(-1)", x.count(3), 0);
        due.is("film(7)", x.film(7), 1);
    }

    private static void could() {
        CaseElsewhere x = new CaseElsewhere();
        x.leads(0, 1, 4);
        x.bag(0, 0, 0, 5, 0);
        due.is("could, no rows", x.could(0), -5);
        due.is("could: row 0 is where it is", told(x, 1), 0);
        due.is("could: row 0", told(x, 0), -5);
        due.is("could: the FIRST", told(x, 0, 1), -5);
        due.is("could: READ", told(x, 0, 4), -5);
        due.is("could: neither", told(x, 0, 2, 7), 1);
        due.is("could: it does not stay", told(x, 0, 0), 1);
        due.is("could: THERE it stays", told(x, 0, 4, 5, 5, 5), -5);
        due.is("could: THERE it stays, and goes no more", told(x, 0, 4, 5, 5, 6), 4);
        due.is("could: the first wrong row", told(x, 0, 1, 2, 4, 5), 3);
        x.leads(2, 1, 7);
        due.is("could: a SECOND that is not nearer", told(x, 0, 1, 2, 7), 3);
        due.is("could: the row of 12", told(x, 0, 1, 2, 3, 4, 5, 5, 5, 5, 5, 5, 0), 11);
        x.ride(0, true);
        due.is("could: from now on", told(x, 4, 5), -5);
        due.is("could: from now on", told(x, 0, 4), 0);
        for (int none : new int[] {-1, 1, 6, Integer.MIN_VALUE, Integer.MAX_VALUE}) {
            due.is("could(" + none + ")", x.could(none), -1);
        }
    }

    private static int told(CaseElsewhere x, int... belts) {
        x.film(-1);
        for (int belt : belts) {
            x.film(belt);
        }
        return x.could(0);
    }

    private static void judge() {
        CaseElsewhere x = new CaseElsewhere();
        for (int i = 0; i < 4; i++) {
            x.bag(0, 0, i + 3, 0, 0);
        }
        Due.bytes(x, 0, 9, 3, 4, 5, 6, 9);
        due.is("judge(0, 1), all as told", x.judge(0, 1), -5);
        due.is("judge(0, 0), the first is otherwise", x.judge(0, 0), 0);
        x.item(0, 3, 4);
        due.is("judge(0, 1), the third is otherwise", x.judge(0, 1), 2);
        Due.bytes(x, 2, 3, 4, 5);
        due.is("judge(2, 0), the row ends", x.judge(2, 0), 103);
        due.is("judge(2, 1)", x.judge(2, 1), 0);
        due.is("judge(2, 3), at the end", x.judge(2, 3), 100);
        Due.bytes(x, 2, 3, 5);
        due.is("judge(2, 0), otherwise ahead of the end", x.judge(2, 0), 1);
        x.item(2, 0, 3 + 256);
        due.is("judge(2, 0), the lowest bits", x.judge(2, 0), 1);
    }

    private static void judgeEdges() {
        CaseElsewhere x = new CaseElsewhere();
        for (int none : new int[] {-1, 6, Integer.MIN_VALUE, Integer.MAX_VALUE}) {
            due.is("judge(" + none + ", 0)", x.judge(none, 0), -1);
        }
        due.is("judge, no CASES, nothing there", x.judge(0, 0), -5);
        due.is("judge, no CASES, no such place", x.judge(0, -1), -5);
        x.tape(1, 1, 5);
        due.is("judge, no CASES, shorts", x.judge(1, 0), -12);
        x.bag(0, 0, 0, 1, 0);
        due.is("judge, nothing there", x.judge(0, 0), 100);
        for (int sort = 1; sort <= 4; sort++) {
            x.tape(1, sort, 5);
            due.is("judge, sort " + sort, x.judge(1, 0), -12);
            due.is("judge, sort " + sort + ", no such place", x.judge(1, -1), -12);
        }
        x.tape(1, 0, 0);
        due.is("judge, an empty row", x.judge(1, 0), 100);
        x.tape(1, 0, 1);
        due.is("judge(1, 0)", x.judge(1, 0), -5);
        for (int place : new int[] {-1, 1, 60, Integer.MIN_VALUE, Integer.MAX_VALUE}) {
            due.is("judge(1, " + place + ")", x.judge(1, place), 100);
        }
    }
}
