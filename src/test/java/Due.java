/** Compares answers with those that are due, and counts the ones that are not. */
final class Due {
    private int looked = 0;
    private int wrong = 0;

    void is(String call, long got, long want) {
        looked++;
        if (got != want) {
            wrong++;
            System.out.println(call + " answered " + got + ", due is " + want);
        }
    }

    void isTrue(String what, boolean isSo) {
        looked++;
        if (!isSo) {
            wrong++;
            System.out.println("not so: " + what);
        }
    }

    /** Ends the program with 1 if an answer was wrong. */
    void end() {
        System.out.println(looked + " answers looked at, " + wrong + " wrong");
        if (wrong != 0 || looked == 0) {
            System.exit(1);
        }
    }

    /** Feeds a text and reads it as a HALL. */
    static int hall(CaseElsewhere x, String text) {
        feed(x, text);
        return x.hall();
    }

    static void feed(CaseElsewhere x, String text) {
        for (int i = 0; i < text.length(); i++) {
            x.feed(text.charAt(i));
        }
    }

    /** A row of bytes on a TAPE. */
    static void bytes(CaseElsewhere x, int tape, int... row) {
        x.tape(tape, 0, row.length);
        for (int i = 0; i < row.length; i++) {
            x.item(tape, i, row[i]);
        }
    }
}
