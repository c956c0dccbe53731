/** Promises 26 and 27: image, undo. */
public final class ImageTest {
    private static final Due due = new Due();

    public static void main(String[] args) {
        undoAll();
        notInTheImage();
        twice();
        due.end();
    }

    private static void undoAll() {
        CaseElsewhere x = new CaseElsewhere();
        due.is("undo() without an image", x.undo(), -3);
        x.bag(1, 2, 3, 5, 456);
        x.bag(2, 3, 4, 6, 567);
        x.owner(456, 3);
        x.film(3);
        x.leads(3, 1, 5);
        Due.hall(x, "read 2 b=3;slow 4 b=3");
        x.set(0, 1, 4);
        x.set(0, 2, 2);
        x.ride(0, false);
        due.is("image()", x.image(), 2);
        int[] want = {1, 2, 3, 5, 4, 456, 1, 1, 10, 5, 0};
        all(x, want, "ahead of changes");
        x.ride(0, true);
        x.set(0, 0, 1);
        x.set(0, 1, 9);
        x.bag(0, 0, 0, 0, 0);
        x.owner(1, 1);
        x.film(4);
        x.leads(3, 0, 0);
        x.leads(3, 1, 0);
        Due.hall(x, "blur 9 b<9");
        due.is("undo()", x.undo(), 2);
        all(x, want, "behind undo");
        due.is("count(0) behind undo", x.count(0), 2);
        due.is("count(1) behind undo", x.count(1), 1);
        due.is("count(3) behind undo", x.count(3), 1);
        due.is("fit(0, 0) behind undo", x.fit(0, 0), 4);
        due.is("could(0) behind undo", x.could(0), -5);
        due.is("near(3, 5) behind undo", x.near(3, 5), 1);
        due.is("leads(3, 0, 4) behind undo", x.leads(3, 0, 4), 4);
        due.is("the next CASE behind undo", x.bag(0, 0, 0, 1, 0), 2);
        due.is("its TORN", x.of(2, 4), 0);
        x.film(-1);
        x.film(0);
        due.is("undo() once more", x.undo(), 2);
        due.is("could(0) behind undo: the row told then", x.could(0), -5);
    }

    private static void all(CaseElsewhere x, int[] want, String when) {
        for (int what = 0; what < want.length; what++) {
            due.is("of(0, " + what + ") " + when, x.of(0, what), want[what]);
        }
    }

    private static void notInTheImage() {
        CaseElsewhere x = new CaseElsewhere();
        x.bag(0, 0, 0, 1, 0);
        x.image();
        due.is("HALL 0", Due.hall(x, "read 1 b=0"), 0);
        x.feed('r');
        x.tape(0, 0, 3);
        x.act(0, 0, 5);
        due.is("undo()", x.undo(), 1);
        due.is("SEEN: no HALL held then", x.of(0, 8), 7);
        due.is("count(2): HALLS stay", x.count(2), 1);
        due.is("count(4): THE TEXT stays", x.count(4), 1);
        due.is("count(5): THE TRACE stays", x.count(5), 1);
        due.is("read(0, 2): TAPES stay", x.read(0, 2), 0);
        Due.feed(x, "ead 2 b=0");
        due.is("the next HALL", x.hall(), 1);
        due.is("SEEN in it", x.of(0, 8), 9);
    }

    private static void twice() {
        CaseElsewhere x = new CaseElsewhere();
        due.is("image() of no CASES", x.image(), 0);
        x.bag(0, 0, 0, 1, 0);
        due.is("image() once more", x.image(), 1);
        x.bag(0, 0, 0, 1, 0);
        due.is("undo() to the newest", x.undo(), 1);
        due.is("undo() again", x.undo(), 1);
    }
}
