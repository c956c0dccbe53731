/** Promises 7 and 16 to 19: owner, like, fit, whose, changed. */
public final class OwnersTest {
    private static final Due due = new Due();

    public static void main(String[] args) {
        owner();
        like();
        fit();
        whose();
        whoseTies();
        whoseOfSix();
        changed();
        changedOfSix();
        due.end();
    }

    private static void owner() {
        CaseElsewhere x = new CaseElsewhere();
        for (int bad : new int[] {-1, 8, Integer.MIN_VALUE, Integer.MAX_VALUE}) {
            due.is("owner on BELT " + bad, x.owner(0, bad), -1);
            due.is("owner on BELT " + bad + " with bad marks", x.owner(-1, bad), -1);
        }
        due.is("owner(-1, 0)", x.owner(-1, 0), -2);
        due.is("owner(1000, 0)", x.owner(1000, 0), -2);
        for (int i = 0; i < 6; i++) {
            due.is("owner " + i, x.owner(i == 0 ? 0 : 999, i == 0 ? 0 : 7), i);
        }
        due.is("a 7th OWNER", x.owner(0, 0), -4);
        due.is("a 7th OWNER on no BELT", x.owner(0, 8), -1);
        due.is("a 7th OWNER with bad marks", x.owner(1000, 0), -2);
        due.is("count(1)", x.count(1), 6);
    }

    private static void like() {
        CaseElsewhere x = new CaseElsewhere();
        due.is("like without CASES", x.like(0, 3), 0);
        int[] marks = {123, 124, 199, 321, 999, 23};
        for (int m : marks) {
            x.bag(0, 0, 0, 1, m);
        }
        due.is("like(123, 0)", x.like(123, 0), 0b000001);
        due.is("like(123, 1)", x.like(123, 1), 0b100011);
        due.is("like(123, 2)", x.like(123, 2), 0b101111);
        due.is("like(123, 3)", x.like(123, 3), 0b111111);
        due.is("like(23, 0)", x.like(23, 0), 0b100000);
        due.is("like(0, 2): the digit 0 ahead", x.like(0, 2), 0b100000);
        CaseElsewhere y = new CaseElsewhere();
        y.bag(0, 0, 0, 1, 200);
        y.bag(0, 0, 0, 1, 201);
        y.bag(0, 0, 0, 1, 299);
        due.is("like(299, 2)", y.like(299, 2), 0b111);
        due.is("like(200, 2)", y.like(200, 2), 0b111);
        due.is("like(201, 2)", y.like(201, 2), 0b111);
        due.is("like(100, 1)", y.like(100, 1), 0b001);
        int[][] bad = {{-1, 0}, {1000, 0}, {0, -1}, {0, 4}, {Integer.MIN_VALUE, 0}, {0, Integer.MAX_VALUE}};
        for (int[] b : bad) {
            due.is("like(" + b[0] + ", " + b[1] + ")", x.like(b[0], b[1]), -2);
        }
    }

    private static void fit() {
        CaseElsewhere x = new CaseElsewhere();
        x.owner(123, 4);
        x.bag(0, 0, 4, 1, 123);
        x.bag(0, 0, 3, 1, 123);
        x.bag(0, 0, 4, 1, 231);
        x.bag(0, 0, 0, 4, 923);
        due.is("fit(0, 0)", x.fit(0, 0), 4);
        due.is("fit(0, 1)", x.fit(0, 1), 3);
        due.is("fit(0, 2)", x.fit(0, 2), 1);
        due.is("fit(0, 3): the SLIP does not matter", x.fit(0, 3), 2);
        int[][] none = {{-1, 0}, {1, 0}, {0, -1}, {0, 4}, {Integer.MAX_VALUE, 0}, {0, Integer.MIN_VALUE}};
        for (int[] n : none) {
            due.is("fit(" + n[0] + ", " + n[1] + ")", x.fit(n[0], n[1]), -1);
        }
    }

    private static void whose() {
        CaseElsewhere x = new CaseElsewhere();
        x.owner(111, 0);
        x.owner(211, 3);
        due.is("whose(0) without CASES", x.whose(0), -5);
        due.is("whose(-1) without CASES", x.whose(-1), 0);
        // FITS are 3, 2, 0 and 3, 1, 0: the best for OWNER 0 by itself is not the best together
        x.bag(0, 0, 3, 1, 111);
        x.bag(0, 0, 7, 1, 119);
        x.bag(0, 0, 7, 1, 999);
        due.is("whose(0)", x.whose(0), 1);
        due.is("whose(1)", x.whose(1), 0);
        due.is("whose(-1)", x.whose(-1), 5);
        x.set(1, 2, 0);
        due.is("whose(-1), a CASE comes where its OWNER waits", x.whose(-1), 6);
        x.owner(919, 7);
        due.is("whose(2)", x.whose(2), 2);
        due.is("whose(-1) of three", x.whose(-1), 3 + 3 + 3);
        for (int none : new int[] {-2, 3, 6, Integer.MIN_VALUE, Integer.MAX_VALUE}) {
            due.is("whose(" + none + ")", x.whose(none), -10001);
        }
    }

    private static void whoseTies() {
        CaseElsewhere x = new CaseElsewhere();
        x.owner(111, 0);
        x.owner(111, 0);
        x.bag(0, 0, 7, 1, 999);
        due.is("whose(0): a CASE with FIT 0 comes ahead of none", x.whose(0), 0);
        due.is("whose(1): none is left", x.whose(1), -5);
        x.bag(0, 0, 7, 1, 111);
        due.is("whose(0), more CASES", x.whose(0), 0);
        due.is("whose(1), more CASES", x.whose(1), 1);
        x.owner(111, 0);
        due.is("whose(2): the first row has the last OWNER go without", x.whose(2), -5);
        due.is("whose(-1)", x.whose(-1), 3);
        CaseElsewhere y = new CaseElsewhere();
        y.owner(555, 0);
        y.owner(120, 0);
        y.bag(0, 0, 7, 1, 123);
        due.is("whose(0): none, where it is of use to another", y.whose(0), -5);
        due.is("whose(1)", y.whose(1), 0);
    }

    /** OWNER i has FIT 4 with CASE 5 - i alone. */
    private static void whoseOfSix() {
        CaseElsewhere x = new CaseElsewhere();
        for (int i = 0; i < 6; i++) {
            x.owner(111 * i, i);
            x.bag(0, 0, 5 - i, 7, 111 * (5 - i));
        }
        for (int i = 0; i < 6; i++) {
            due.is("whose(" + i + ") of six", x.whose(i), 5 - i);
        }
        due.is("whose(-1) of six", x.whose(-1), 24);
        CaseElsewhere y = new CaseElsewhere();
        for (int i = 0; i < 6; i++) {
            y.owner(111, 0);
            y.bag(0, 0, 1, 7, 999);
        }
        for (int i = 0; i < 6; i++) {
            due.is("whose(" + i + ") of six alike", y.whose(i), i);
        }
        due.is("whose(-1) of six alike", y.whose(-1), 0);
    }

    private static void changedOfSix() {
        CaseElsewhere x = new CaseElsewhere();
        for (int i = 0; i < 6; i++) {
            x.owner(111 * i, i);
            x.bag(0, 0, i == 5 ? 7 : i, 7, 111 * (i < 2 ? 1 - i : i));
        }
        due.is("changed(0) of six", x.changed(0), 1);
        due.is("changed(1) of six", x.changed(1), 1);
        CaseElsewhere y = new CaseElsewhere();
        y.owner(111, 4);
        y.owner(222, 5);
        y.bag(0, 0, 4, 7, 992);
        y.bag(0, 0, 5, 7, 112);
        due.is("changed(0): the other one gains none", y.changed(0), 0);
    }

    private static void changed() {
        CaseElsewhere x = new CaseElsewhere();
        due.is("changed(0) without OWNERS", x.changed(0), 0);
        due.is("changed(1) without OWNERS", x.changed(1), -5);
        x.owner(777, 6);
        x.owner(111, 1);
        x.owner(222, 2);
        x.bag(0, 0, 1, 0, 922);
        due.is("changed(0), one CASE", x.changed(0), 0);
        x.bag(0, 0, 2, 0, 119);
        x.bag(0, 0, 1, 0, 111);
        due.is("changed(0): the least CASES count", x.changed(0), 1);
        due.is("changed(1)", x.changed(1), 12);
        x.owner(222, 2);
        due.is("changed(0), another OWNER waits there", x.changed(0), 2);
        due.is("changed(1), the first", x.changed(1), 12);
        x.set(0, 2, 7);
        due.is("changed(0), the least CASE is its own", x.changed(0), 0);
        due.is("changed(1), none", x.changed(1), -5);
        x.set(0, 2, 1);
        x.bag(0, 0, 6, 0, 0);
        due.is("changed(0), alike as much is not more", x.changed(0), 2);
        for (int none : new int[] {-1, 2, Integer.MIN_VALUE, Integer.MAX_VALUE}) {
            due.is("changed(" + none + ")", x.changed(none), -1);
        }
        CaseElsewhere y = new CaseElsewhere();
        y.owner(111, 1);
        y.owner(222, 1);
        y.bag(0, 0, 1, 0, 222);
        due.is("changed(0): both wait at one BELT", y.changed(0), 0);
        CaseElsewhere z = new CaseElsewhere();
        z.owner(111, 1);
        z.owner(222, 2);
        z.bag(0, 0, 1, 0, 222);
        z.bag(0, 0, 2, 0, 999);
        due.is("changed(0): but one of them gains", z.changed(0), 0);
        z.set(1, 2, 5);
        z.bag(0, 0, 2, 0, 111);
        due.is("changed(1) as 0 and 1", z.changed(1), 1);
        due.is("changed(0) of 0 and 1", z.changed(0), 1);
    }
}
