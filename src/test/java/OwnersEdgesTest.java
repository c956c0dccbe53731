/** LIKE, FIT, WHOSE and CHANGED: the edges that their sentences name. */
public final class OwnersEdgesTest {
    private static final Due due = new Due();

    public static void main(String[] args) {
        likeByEachDigit();
        likeOrFewer();
        likeBits();
        fitByEachDigit();
        fitOneMore();
        whoseNone();
        whoseMore();
        whoseFirstRow();
        whoseNoneBehindAll();
        whoseNotGreedy();
        whoseOneMore();
        changedNeedsBoth();
        changedNeedsMore();
        changedLeast();
        changedFirst();
        changedOnOneBelt();
        changedAll();
        due.end();
    }

    private static CaseElsewhere cases(int... marks) {
        CaseElsewhere x = new CaseElsewhere();
        for (int m : marks) {
            x.bag(0, 0, 0, 1, m);
        }
        return x;
    }

    private static void whose(CaseElsewhere x, int sum, int... bags) {
        due.is("whose(-1)", x.whose(-1), sum);
        for (int i = 0; i < bags.length; i++) {
            due.is("whose(" + i + ")", x.whose(i), bags[i]);
        }
    }

    /** "of the three digits": each by its place, a 0 ahead too. */
    private static void likeByEachDigit() {
        CaseElsewhere x = cases(123);
        due.is("like(123, 0)", x.like(123, 0), 1);
        int[] one = {23, 223, 923, 103, 113, 193, 120, 122, 129};
        for (int marks : one) {
            due.is("like(" + marks + ", 0)", x.like(marks, 0), 0);
            due.is("like(" + marks + ", 1)", x.like(marks, 1), 1);
        }
        int[] two = {3, 20, 100, 993, 929, 199, 321};
        for (int marks : two) {
            due.is("like(" + marks + ", 1)", x.like(marks, 1), 0);
            due.is("like(" + marks + ", 2)", x.like(marks, 2), 1);
        }
        int[] three = {0, 1, 12, 231, 312, 999, 210};
        for (int marks : three) {
            due.is("like(" + marks + ", 2)", x.like(marks, 2), 0);
            due.is("like(" + marks + ", 3)", x.like(marks, 3), 1);
        }
        due.is("like(0, 0) of 0", cases(0).like(0, 0), 1);
        due.is("like(5, 0) of 5", cases(5).like(5, 0), 1);
        due.is("like(50, 0) of 5", cases(5).like(50, 0), 0);
    }

    /** "as many .. or fewer". */
    private static void likeOrFewer() {
        CaseElsewhere x = cases(555, 556, 566, 666);
        due.is("like(555, 0)", x.like(555, 0), 1);
        due.is("like(555, 1)", x.like(555, 1), 3);
        due.is("like(555, 2)", x.like(555, 2), 7);
        due.is("like(555, 3)", x.like(555, 3), 15);
    }

    /** "CASES .. as bits": each by its number; BELT and SLIP do not matter. */
    private static void likeBits() {
        for (int bag = 0; bag <= 5; bag++) {
            CaseElsewhere x = new CaseElsewhere();
            for (int i = 0; i <= 5; i++) {
                x.bag(i, i, i, 5 - i, i == bag ? 700 : 800);
            }
            due.is("like(700, 0) of CASE " + bag, x.like(700, 0), 1 << bag);
            due.is("like(800, 0) of CASE " + bag, x.like(800, 0), 63 - (1 << bag));
            due.is("like(800, 1) of CASE " + bag, x.like(800, 1), 63);
        }
    }

    private static void fitByEachDigit() {
        CaseElsewhere x = cases(123, 923, 193, 129, 999, 312);
        x.owner(123, 7);
        int[] want = {3, 2, 2, 2, 0, 0};
        for (int bag = 0; bag < want.length; bag++) {
            due.is("fit(0, " + bag + ")", x.fit(0, bag), want[bag]);
        }
    }

    /** "and 1 more, if the CASE is on the BELT where the OWNER waits": not its SLIP. */
    private static void fitOneMore() {
        CaseElsewhere x = new CaseElsewhere();
        x.bag(0, 0, 3, 5, 123);
        x.owner(123, 3);
        x.owner(999, 3);
        x.owner(123, 5);
        due.is("fit of all alike, on the BELT", x.fit(0, 0), 4);
        due.is("fit of none alike, on the BELT", x.fit(1, 0), 1);
        due.is("fit of all alike, its SLIP", x.fit(2, 0), 3);
        x.set(0, 2, 5);
        due.is("fit, no more on the BELT", x.fit(0, 0), 3);
        due.is("fit of none", x.fit(1, 0), 0);
        due.is("fit, on the BELT", x.fit(2, 0), 4);
    }

    /** "(-5: none)": no CASES; fewer than OWNERS. */
    private static void whoseNone() {
        CaseElsewhere x = new CaseElsewhere();
        whose(x, 0);
        x.owner(123, 0);
        whose(x, 0, -5);
        x.bag(0, 0, 7, 1, 999);
        whose(x, 0, 0);
        x.owner(999, 0);
        whose(x, 3, -5, 0);
        x.owner(999, 7);
        whose(x, 4, -5, -5, 0);
    }

    /** More CASES than OWNERS, and more OWNERS than CASES. */
    private static void whoseMore() {
        CaseElsewhere x = cases(100, 200, 300, 400, 500, 600);
        x.owner(699, 7);
        whose(x, 1, 5);
        x.owner(100, 7);
        whose(x, 4, 5, 0);
        CaseElsewhere y = cases(777);
        for (int i = 0; i < 6; i++) {
            y.owner(i == 4 ? 777 : 770, 7);
        }
        whose(y, 3, -5, -5, -5, -5, 0, -5);
        y.set(0, 2, 7);
        whose(y, 4, -5, -5, -5, -5, 0, -5);
    }

    /** "of several the first as a row (by OWNERS ..)": the least CASE for the first OWNER, then the next. */
    private static void whoseFirstRow() {
        CaseElsewhere x = cases(111, 111, 111);
        x.owner(111, 7);
        x.owner(111, 7);
        x.owner(111, 7);
        whose(x, 9, 0, 1, 2);
        CaseElsewhere y = cases(112, 121, 211);
        y.owner(111, 7);
        y.owner(111, 7);
        whose(y, 4, 0, 1);
        CaseElsewhere z = cases(110, 119, 111);
        z.owner(110, 7);
        z.owner(119, 7);
        z.owner(112, 7);
        whose(z, 8, 0, 1, 2);
        CaseElsewhere w = cases(999, 999);
        w.owner(0, 7);
        w.owner(0, 7);
        whose(w, 0, 0, 1);
    }

    /** "(.. none behind all CASES)": one with FIT 0 comes ahead of none, the last one too. */
    private static void whoseNoneBehindAll() {
        CaseElsewhere x = cases(111, 999);
        x.owner(222, 7);
        x.owner(111, 7);
        whose(x, 3, 1, 0);
        CaseElsewhere y = cases(111);
        y.owner(222, 7);
        y.owner(222, 7);
        whose(y, 0, 0, -5);
        CaseElsewhere z = cases(111, 112, 113, 114, 115, 999);
        z.owner(222, 7);
        for (int i = 1; i <= 5; i++) {
            z.owner(110 + i, 7);
        }
        whose(z, 15, 5, 0, 1, 2, 3, 4);
    }

    /** "by which FIT, together, is most". */
    private static void whoseNotGreedy() {
        CaseElsewhere x = cases(123, 129, 199);
        x.owner(123, 7);
        x.owner(123, 7);
        x.owner(193, 7);
        whose(x, 3 + 2 + 2, 0, 1, 2);
        CaseElsewhere y = cases(110, 119);
        y.owner(111, 7);
        y.owner(110, 7);
        whose(y, 5, 1, 0);
        CaseElsewhere z = cases(100, 110, 111);
        z.owner(111, 7);
        z.owner(111, 7);
        z.owner(111, 7);
        whose(z, 6, 0, 1, 2);
    }

    /** FIT's 1 more counts with WHOSE, too. */
    private static void whoseOneMore() {
        CaseElsewhere x = new CaseElsewhere();
        x.owner(111, 3);
        x.bag(0, 0, 4, 1, 112);
        x.bag(0, 0, 4, 1, 121);
        whose(x, 2, 0);
        x.set(1, 2, 3);
        whose(x, 3, 1);
        x.set(0, 2, 3);
        whose(x, 3, 0);
    }

    /** OWNERS on BELTS 2 and 5, whose CASES (if told) were changed, if told so. */
    private static CaseElsewhere pair(int x, int y) {
        CaseElsewhere z = new CaseElsewhere();
        z.owner(111, 2);
        z.owner(222, 5);
        z.bag(0, 0, 2, 7, x);
        z.bag(0, 0, 5, 7, y);
        return z;
    }

    private static void changed(CaseElsewhere x, int n, int first) {
        due.is("changed(0)", x.changed(0), n);
        due.is("changed(1)", x.changed(1), first);
    }

    /** "(both must be)". */
    private static void changedNeedsBoth() {
        CaseElsewhere x = pair(222, 111);
        changed(x, 1, 1);
        x.set(0, 2, 3);
        changed(x, 0, -5);
        x.set(0, 2, 2);
        x.set(1, 2, 2);
        changed(x, 0, -5);
        x.set(0, 2, 5);
        changed(x, 0, -5);
        x.set(0, 2, 2);
        x.set(1, 2, 5);
        changed(x, 1, 1);
    }

    /** "more digits alike": by one is enough, as many is not, for each of the two. */
    private static void changedNeedsMore() {
        changed(pair(999, 999), 0, -5);
        changed(pair(111, 222), 0, -5);
        changed(pair(992, 991), 1, 1);
        changed(pair(929, 199), 1, 1);
        changed(pair(992, 999), 0, -5);
        changed(pair(999, 991), 0, -5);
        changed(pair(122, 211), 1, 1);
        changed(pair(122, 122), 0, -5);
        changed(pair(112, 119), 0, -5);
        changed(pair(129, 119), 1, 1);
        changed(pair(229, 192), 1, 1);
        changed(pair(221, 192), 0, -5);
        changed(pair(220, 190), 1, 1);
    }

    /** "a least CASE x on the BELT". */
    private static void changedLeast() {
        CaseElsewhere x = pair(222, 111);
        x.bag(0, 0, 2, 7, 111);
        x.bag(0, 0, 5, 7, 222);
        changed(x, 1, 1);
        x.set(0, 2, 7);
        changed(x, 0, -5);
        x.set(0, 2, 2);
        x.set(1, 2, 7);
        changed(x, 0, -5);
    }

    /** "the first (10 times the lesser number, and the other one; -5)". */
    private static void changedFirst() {
        for (int one = 0; one <= 5; one++) {
            for (int other = one + 1; other <= 5; other++) {
                CaseElsewhere x = new CaseElsewhere();
                for (int i = 0; i <= 5; i++) {
                    x.owner(i == one ? 111 : i == other ? 222 : 0, i == one ? 2 : i == other ? 5 : 7);
                }
                x.bag(0, 0, 2, 7, 222);
                x.bag(0, 0, 5, 7, 111);
                changed(x, 1, 10 * one + other);
            }
        }
    }

    /** Both wait at one BELT: x is y. */
    private static void changedOnOneBelt() {
        CaseElsewhere x = new CaseElsewhere();
        x.owner(111, 2);
        x.owner(222, 2);
        x.bag(0, 0, 2, 7, 222);
        x.bag(0, 0, 2, 7, 111);
        changed(x, 0, -5);
    }

    /** Three OWNERS wait here and three there: nine pairs, for it is the same least CASE each time. */
    private static void changedAll() {
        CaseElsewhere x = new CaseElsewhere();
        for (int i = 0; i < 6; i++) {
            x.owner(i % 2 == 0 ? 111 : 222, i % 2 == 0 ? 2 : 5);
        }
        x.bag(0, 0, 2, 7, 222);
        x.bag(0, 0, 5, 7, 111);
        changed(x, 9, 1);
        x.set(1, 2, 4);
        changed(x, 0, -5);
    }
}
