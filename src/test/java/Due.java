/** Compares answers with those that are due, and counts the ones that are not. */
final class Due {
    private static final int MOST_TOLD = 40;

    private int looked = 0;
    private int wrong = 0;

    void is(String call, long got, long want) {
        looked++;
        if (got != want) {
            tell(call + " answered " + got + ", due is " + want);
        }
    }

    void isTrue(String what, boolean isSo) {
        looked++;
        if (!isSo) {
            tell("not so: " + what);
        }
    }

    /** Compares all that two objects answer, as Whole tells it, and tells where they begin to be otherwise. */
    void isSame(String call, String[] got, String[] want) {
        looked++;
        for (int i = 0; i < got.length && i < want.length; i++) {
            if (!got[i].equals(want[i])) {
                tell("behind " + call + " it is " + got[i] + ", due is " + want[i]);
                return;
            }
        }
        if (got.length != want.length) {
            tell("behind " + call + " there are " + got.length + " answers, due are " + want.length);
        }
    }

    private void tell(String what) {
        wrong++;
        if (wrong <= MOST_TOLD) {
            System.out.println(what);
        }
    }

    /** Ends the program with 1 if an answer was wrong. */
    void end() {
        System.out.println(looked + " answers looked at, " + wrong + " wrong");
        if (wrong != 0 || looked == 0) {
            System.exit(1);
        }
    }

    /** Numbers that are not from .. to: the first ones beyond on either side, and the ones furthest off. */
    static int[] beyond(int from, int to) {
        return new int[] {from - 1, to + 1, Integer.MIN_VALUE, Integer.MAX_VALUE};
    }

    /** Feeds a text and reads it as a HALL. */
    static int hall(CaseElsewhere x, String text) {
        feed(x, text);
        return x.hall();
    }

    static void feed(CaseElsewhere x, String text) {
        for (int i = 0; i < text.length(); i++) {
            x.feed(text.charAt(i));
        }
    }

    /** A row of bytes on a TAPE. */
    static void bytes(CaseElsewhere x, int tape, int... row) {
        x.tape(tape, 0, row.length);
        for (int i = 0; i < row.length; i++) {
            x.item(tape, i, row[i]);
        }
    }
}
