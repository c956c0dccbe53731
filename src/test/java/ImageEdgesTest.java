/** THE IMAGE: all that is in it comes back, one by one, and what is not in it stays. */
public final class ImageEdgesTest {
    private static final Due due = new Due();

    public static void main(String[] args) {
        none();
        howManyCases();
        oneChange();
        allChanges();
        ownersBehindUndo();
        filmBehindUndo();
        hallBehindUndo();
        hallsStay();
        textTapesTraceStay();
        imageIsACopy();
        again();
        due.end();
    }

    /** A change of an object. */
    private interface Change {
        void on(CaseElsewhere x);
    }

    /** "STATE: there is none." */
    private static void none() {
        CaseElsewhere x = new CaseElsewhere();
        due.is("undo() at first", x.undo(), -3);
        due.is("undo() again", x.undo(), -3);
        due.is("image()", x.image(), 0);
        due.is("undo() behind it", x.undo(), 0);
    }

    private static void howManyCases() {
        CaseElsewhere x = new CaseElsewhere();
        for (int i = 0; i <= 6; i++) {
            due.is("image() of " + i, x.image(), i);
            x.bag(0, 0, 0, 1, 0);
            due.is("undo() to " + i, x.undo(), i);
            due.is("count(0)", x.count(0), i);
            x.bag(0, 0, 0, 1, 0);
        }
    }

    /** What is changed behind image() is as it was behind undo(). */
    private static void undone(String call, Change change) {
        CaseElsewhere x = Made.some();
        CaseElsewhere y = Made.some();
        due.is("image()", x.image(), 3);
        due.is("image()", y.image(), 3);
        change.on(x);
        due.is("undo() behind " + call, x.undo(), 3);
        due.isSame(call + " and undo()", Whole.of(x), Whole.of(y));
    }

    private static void oneChange() {
        for (int belt = 0; belt <= 7; belt++) {
            int b = belt;
            undone("leads(" + b + ", 0, ..)", x -> x.leads(b, 0, (b + 2) % 8));
            undone("leads(" + b + ", 1, ..)", x -> x.leads(b, 1, (b + 3) % 8));
        }
        for (int bag = 0; bag <= 2; bag++) {
            int i = bag;
            undone("set(" + i + ", 0, 1)", x -> x.set(i, 0, 1));
            undone("set(" + i + ", 1, 9)", x -> x.set(i, 1, 9));
            undone("set(" + i + ", 2, 1)", x -> x.set(i, 2, 1));
            undone("ride(" + i + ", true)", x -> x.ride(i, true));
            undone("ride(" + i + ", false)", x -> x.ride(i, false));
        }
        undone("bag(..)", x -> x.bag(5, 5, 5, 5, 555));
        undone("owner(..)", x -> x.owner(555, 5));
        undone("film(6)", x -> x.film(6));
        undone("film(-1)", x -> x.film(-1));
    }

    private static void allChanges() {
        undone("all changes", x -> {
            for (int belt = 0; belt <= 7; belt++) {
                x.leads(belt, 0, 7 - belt);
                x.leads(belt, 1, belt);
            }
            for (int i = 0; i < 3; i++) {
                x.ride(i, false);
                x.set(i, 0, 0);
                x.set(i, 1, 0);
                x.set(i, 2, 1);
                x.bag(6, 9, 4, 4, 444);
            }
            for (int i = 0; i < 4; i++) {
                x.owner(444, 4);
            }
            x.film(-1);
            for (int i = 0; i < 12; i++) {
                x.film(1);
            }
        });
    }

    /** OWNERS that were undone and others that came in their place. */
    private static void ownersBehindUndo() {
        CaseElsewhere x = new CaseElsewhere();
        x.bag(0, 0, 2, 7, 123);
        x.image();
        due.is("owner(123, 2)", x.owner(123, 2), 0);
        due.is("fit(0, 0)", x.fit(0, 0), 4);
        x.undo();
        due.is("fit(0, 0) behind undo()", x.fit(0, 0), -1);
        due.is("whose(0) behind undo()", x.whose(0), -10001);
        due.is("owner(199, 5) behind undo()", x.owner(199, 5), 0);
        due.is("fit(0, 0)", x.fit(0, 0), 1);
        x.image();
        for (int i = 1; i < 6; i++) {
            due.is("owner " + i, x.owner(123, 2), i);
        }
        due.is("a 7th", x.owner(123, 2), -4);
        x.undo();
        due.is("count(1) behind undo()", x.count(1), 1);
        due.is("owner(0, 0) behind undo()", x.owner(0, 0), 1);
        due.is("fit(0, 0) behind undo()", x.fit(0, 0), 1);
        // an IMAGE with OWNERS, from ahead of which others are taken
        CaseElsewhere y = new CaseElsewhere();
        y.image();
        y.owner(111, 1);
        y.undo();
        y.owner(222, 2);
        y.image();
        y.undo();
        y.bag(0, 0, 2, 7, 222);
        due.is("fit(0, 0) of the OWNER of the newest IMAGE", y.fit(0, 0), 4);
        ownersOfTheImage();
    }

    /** OWNERS keep MARKS and BELT of THE IMAGE, though others came to their numbers since. */
    private static void ownersOfTheImage() {
        CaseElsewhere x = new CaseElsewhere();
        x.bag(0, 0, 2, 7, 123);
        x.owner(123, 2);
        x.image();
        x.owner(999, 3);
        x.undo();
        due.is("fit(0, 0)", x.fit(0, 0), 4);
        due.is("fit(1, 0)", x.fit(1, 0), -1);
        x.owner(129, 2);
        due.is("fit(1, 0)", x.fit(1, 0), 3);
        x.undo();
        due.is("count(1)", x.count(1), 1);
    }

    /** Rows that were told anew at the places of THE IMAGE's. */
    private static void filmBehindUndo() {
        CaseElsewhere x = new CaseElsewhere();
        x.bag(0, 0, 2, 7, 0);
        x.film(2);
        x.film(3);
        x.image();
        x.film(-1);
        x.film(5);
        x.film(5);
        x.film(5);
        due.is("could(0)", x.could(0), 0);
        x.undo();
        due.is("count(3) behind undo()", x.count(3), 2);
        due.is("could(0) behind undo()", x.could(0), -5);
        due.is("film(4) behind undo()", x.film(4), 3);
        due.is("could(0)", x.could(0), -5);
        due.is("film(6)", x.film(6), 4);
        due.is("could(0)", x.could(0), 3);
    }

    /** "which HALL holds": none, or an older one. */
    private static void hallBehindUndo() {
        CaseElsewhere x = new CaseElsewhere();
        x.bag(0, 0, 2, 7, 0);
        x.image();
        Due.hall(x, "slow 1 b=2");
        due.is("TAKES", x.of(0, 9), 2);
        x.undo();
        due.is("TAKES behind undo(): none holds", x.of(0, 9), 1);
        Due.hall(x, "slow 2 b=2");
        x.image();
        Due.hall(x, "slow 3 b=2");
        Due.hall(x, "slow 4 b=2");
        due.is("TAKES", x.of(0, 9), 5);
        x.undo();
        due.is("TAKES behind undo(): the one that held", x.of(0, 9), 3);
        due.is("a FAULT", Due.hall(x, "slow 5"), -16);
        due.is("TAKES behind a FAULT", x.of(0, 9), 3);
        due.is("the next HALL", Due.hall(x, "slow 6 b=2"), 4);
        due.is("TAKES in it", x.of(0, 9), 7);
    }

    /** HALLS themselves are not in THE IMAGE: they stay, and there are 6 at most. */
    private static void hallsStay() {
        CaseElsewhere x = new CaseElsewhere();
        x.image();
        for (int i = 0; i < 6; i++) {
            due.is("HALL " + i, Due.hall(x, "room 1"), i);
            due.is("undo()", x.undo(), 0);
            due.is("count(2)", x.count(2), i + 1);
        }
        due.is("a 7th", Due.hall(x, "room 1"), -4);
    }

    private static void textTapesTraceStay() {
        CaseElsewhere x = new CaseElsewhere();
        x.bag(6, 1, 2, 7, 0);
        x.image();
        Due.feed(x, "slow 7 b=2");
        x.tape(0, 1, 2);
        x.item(0, 1, 77);
        x.act(0, 1, 3);
        x.undo();
        due.is("count(4) behind undo()", x.count(4), 10);
        due.is("read(0, 1) behind undo()", x.read(0, 1), 77);
        due.is("count(5) behind undo()", x.count(5), 5);
        due.is("trace(0) behind undo()", x.trace(0), 70);
        due.is("hall() behind undo()", x.hall(), 0);
        due.is("TAKES behind it", x.of(0, 9), 8);
    }

    /** Changes behind undo() do not come into THE IMAGE, nor those behind image(). */
    private static void imageIsACopy() {
        CaseElsewhere x = new CaseElsewhere();
        x.bag(1, 2, 3, 7, 456);
        x.image();
        for (int i = 0; i < 3; i++) {
            x.ride(0, false);
            x.set(0, 1, 5 + i);
            x.leads(3, 0, 5 + i);
            due.is("undo()", x.undo(), 1);
            int[] want = {1, 2, 3, 7, 0, 456, 0, 0, 8, 1, 0};
            for (int what = 0; what < want.length; what++) {
                due.is("of(0, " + what + ") behind undo()", x.of(0, what), want[what]);
            }
            due.is("near(3, 4) behind undo()", x.near(3, 4), 1);
        }
    }

    /** The newest IMAGE counts; image() itself changes nothing else. */
    private static void again() {
        CaseElsewhere x = new CaseElsewhere();
        x.bag(0, 0, 2, 7, 0);
        due.is("image()", x.image(), 1);
        x.set(0, 2, 3);
        due.is("image() again", x.image(), 1);
        x.set(0, 2, 4);
        due.is("undo()", x.undo(), 1);
        due.is("BELT of the newest IMAGE", x.of(0, 2), 3);
        due.is("undo() again", x.undo(), 1);
        due.is("BELT of the newest IMAGE", x.of(0, 2), 3);
        CaseElsewhere y = Made.some();
        due.is("undo() of what is made", y.undo(), 1);
        due.is("BELT then", y.of(0, 2), 0);
        due.is("count(1) then", y.count(1), 1);
        due.is("count(2) then", y.count(2), 2);
    }
}
