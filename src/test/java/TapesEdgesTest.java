/** TAPES, their items and shift: the edges that part 4 names. */
public final class TapesEdgesTest {
    private static final Due due = new Due();
    private static final long NO = CaseElsewhere.NO;

    public static void main(String[] args) {
        nothingAtFirst();
        sixTapes();
        lengths();
        longestRow();
        nDoesNotMatter();
        allNought();
        anotherSort();
        bytes();
        shorts();
        ints();
        longs();
        booleans();
        readIsNoRefusal();
        shiftAsTheyAllWere();
        shiftAtTheEnds();
        shiftNone();
        shiftOfEachSort();
        shiftOfUnlikeLengths();
        shiftAcrossSixty();
        due.end();
    }

    /** "TAPES 0 .. 5 hold nothing (at first)". */
    private static void nothingAtFirst() {
        CaseElsewhere x = new CaseElsewhere();
        for (int tape = 0; tape <= 5; tape++) {
            due.is("item(" + tape + ", 0, 1) at first", x.item(tape, 0, 1), -11);
            due.is("read(" + tape + ", 0) at first", x.read(tape, 0), NO);
            due.is("shift of " + tape + " at first", x.shift(tape, 0, tape, 0, 0), -11);
        }
    }

    private static void sixTapes() {
        CaseElsewhere x = new CaseElsewhere();
        for (int tape = 0; tape <= 5; tape++) {
            due.is("tape(" + tape + ", 3, 60)", x.tape(tape, 3, 60), 1);
            due.is("item(" + tape + ", 0, ..)", x.item(tape, 0, 100 + tape), 1);
            due.is("item(" + tape + ", 59, ..)", x.item(tape, 59, 200 + tape), 1);
        }
        for (int tape = 0; tape <= 5; tape++) {
            due.is("read(" + tape + ", 0)", x.read(tape, 0), 100 + tape);
            due.is("read(" + tape + ", 59)", x.read(tape, 59), 200 + tape);
            due.is("read(" + tape + ", 1)", x.read(tape, 1), 0);
            due.is("read(" + tape + ", 58)", x.read(tape, 58), 0);
        }
        due.is("tape(-1, 3, 60)", x.tape(-1, 3, 60), -1);
        due.is("tape(6, 3, 60)", x.tape(6, 3, 60), -1);
    }

    /** "a row of n (0 .. 60)": of each sort. */
    private static void lengths() {
        for (int sort = 0; sort <= 4; sort++) {
            for (int n : new int[] {0, 1, 2, 59, 60}) {
                CaseElsewhere x = new CaseElsewhere();
                String row = "a row of " + n + " of sort " + sort;
                due.is(row, x.tape(0, sort, n), 1);
                due.is("item ahead of " + row, x.item(0, -1, 1), -13);
                due.is("read ahead of " + row, x.read(0, -1), NO);
                due.is("item behind " + row, x.item(0, n, 1), -13);
                due.is("read behind " + row, x.read(0, n), NO);
                if (n > 0) {
                    due.is("item at the end of " + row, x.item(0, n - 1, 1), 1);
                    due.is("read at the end of " + row, x.read(0, n - 1), 1);
                    due.is("item at the beginning of " + row, x.item(0, 0, 1), 1);
                    due.is("read at the beginning of " + row, x.read(0, 0), 1);
                }
                due.is("tape(0, sort, 61)", x.tape(0, sort, 61), -2);
                due.is("tape(0, sort, -1)", x.tape(0, sort, -1), -14);
                due.is("read behind what was refused", x.read(0, 0), n > 0 ? 1 : NO);
            }
        }
    }

    private static void longestRow() {
        CaseElsewhere x = new CaseElsewhere();
        x.tape(5, 2, 60);
        for (int i = 0; i < 60; i++) {
            due.is("item(5, " + i + ", ..)", x.item(5, i, 7 * i - 100), 1);
        }
        for (int i = 0; i < 60; i++) {
            due.is("read(5, " + i + ")", x.read(5, i), 7 * i - 100);
        }
        due.is("read(5, 60)", x.read(5, 60), NO);
        due.is("read(4, 59)", x.read(4, 59), NO);
    }

    /** "or holds nothing (sort -1: n does not matter)". */
    private static void nDoesNotMatter() {
        for (int n : new int[] {0, 1, 60, 61, -1, Integer.MIN_VALUE, Integer.MAX_VALUE}) {
            CaseElsewhere x = new CaseElsewhere();
            due.is("tape(0, -1, " + n + ") of one that holds nothing", x.tape(0, -1, n), 1);
            due.is("item", x.item(0, 0, 1), -11);
            x.tape(0, 2, 3);
            due.is("tape(0, -1, " + n + ")", x.tape(0, -1, n), 1);
            due.is("item", x.item(0, 0, 1), -11);
            due.is("read", x.read(0, 0), NO);
            due.is("shift", x.shift(0, 0, 0, 0, 0), -11);
        }
        CaseElsewhere y = new CaseElsewhere();
        due.is("tape(0, -2, 0)", y.tape(0, -2, 0), -2);
        due.is("tape(0, 5, 0)", y.tape(0, 5, 0), -2);
    }

    /** "all 0": a row that is made again, too. */
    private static void allNought() {
        CaseElsewhere x = new CaseElsewhere();
        for (int sort = 0; sort <= 4; sort++) {
            x.tape(0, sort, 5);
            for (int i = 0; i < 5; i++) {
                due.is("read(0, " + i + ") of a new row", x.read(0, i), 0);
                x.item(0, i, 1);
            }
        }
        x.tape(0, -1, 0);
        x.tape(0, 4, 5);
        for (int i = 0; i < 5; i++) {
            due.is("read(0, " + i + ") of a new row", x.read(0, i), 0);
        }
        x.item(0, 4, 1);
        x.tape(0, 4, 2);
        x.tape(0, 4, 5);
        due.is("read(0, 4) of a new row", x.read(0, 4), 0);
    }

    private static void anotherSort() {
        CaseElsewhere x = new CaseElsewhere();
        x.tape(0, 3, 2);
        x.item(0, 0, 300);
        due.is("read(0, 0) of longs", x.read(0, 0), 300);
        x.tape(0, 0, 2);
        x.item(0, 0, 300);
        due.is("read(0, 0) of bytes", x.read(0, 0), 44);
        x.tape(0, 4, 2);
        x.item(0, 0, 300);
        due.is("read(0, 0) of booleans", x.read(0, 0), 1);
    }

    private static void items(int sort, long[] values, long[] want) {
        CaseElsewhere x = new CaseElsewhere();
        x.tape(2, sort, 3);
        for (int i = 0; i < values.length; i++) {
            due.is("item(2, 1, " + values[i] + ") of sort " + sort, x.item(2, 1, values[i]), 1);
            due.is("read(2, 1) of sort " + sort + " behind " + values[i], x.read(2, 1), want[i]);
        }
        due.is("read(2, 0)", x.read(2, 0), 0);
        due.is("read(2, 2)", x.read(2, 2), 0);
    }

    /** "its lowest bits, as many as an item has". */
    private static void bytes() {
        items(0, new long[] {0, 127, 128, 255, 256, 257, -1, -128, -129, -256, 1L << 32, Long.MAX_VALUE, NO, 0x1234567890L},
            new long[] {0, 127, -128, -1, 0, 1, -1, -128, 127, 0, 0, -1, 0, -112});
    }

    private static void shorts() {
        items(1, new long[] {0, 255, 32767, 32768, 65535, 65536, -1, -32768, -32769, 1L << 40, Long.MAX_VALUE, NO, 0x12345678L},
            new long[] {0, 255, 32767, -32768, -1, 0, -1, -32768, 32767, 0, -1, 0, 0x5678});
    }

    private static void ints() {
        items(2, new long[] {0, 65536, Integer.MAX_VALUE, 1L << 31, (1L << 32) - 1, 1L << 32, -1, Integer.MIN_VALUE,
                Integer.MIN_VALUE - 1L, Long.MAX_VALUE, NO, 0x123456789AL},
            new long[] {0, 65536, Integer.MAX_VALUE, Integer.MIN_VALUE, -1, 0, -1, Integer.MIN_VALUE,
                Integer.MAX_VALUE, -1, 0, 0x3456789A});
    }

    private static void longs() {
        long[] values = {0, 1L << 32, Long.MAX_VALUE, NO, -1, NO + 1, 1L << 62};
        items(3, values, values);
    }

    /** "booleans: whether v is not 0". */
    private static void booleans() {
        items(4, new long[] {1, 0, 2, 0, -1, 0, 256, 0, 1L << 32, 0, NO, 0, Long.MAX_VALUE, -2},
            new long[] {1, 0, 1, 0, 1, 0, 1, 0, 1, 0, 1, 0, 1, 1});
    }

    /** An item may be NO itself; one that is not there answers the same. */
    private static void readIsNoRefusal() {
        CaseElsewhere x = new CaseElsewhere();
        x.tape(0, 3, 1);
        due.is("item(0, 0, NO)", x.item(0, 0, NO), 1);
        due.is("read(0, 0)", x.read(0, 0), NO);
        due.is("shift of it", x.shift(0, 0, 0, 0, 1), 1);
        due.is("item(0, 0, 1)", x.item(0, 0, 1), 1);
        due.is("read(0, 0)", x.read(0, 0), 1);
    }

    private static void ints(CaseElsewhere x, int tape, int... row) {
        x.tape(tape, 2, row.length);
        for (int i = 0; i < row.length; i++) {
            x.item(tape, i, row[i]);
        }
    }

    private static void row(CaseElsewhere x, int tape, int... want) {
        for (int i = 0; i < want.length; i++) {
            due.is("read(" + tape + ", " + i + ")", x.read(tape, i), want[i]);
        }
        due.is("read(" + tape + ", " + want.length + ")", x.read(tape, want.length), NO);
    }

    /** "(or the same) .. as they all were before": on, back, and by one or by many. */
    private static void shiftAsTheyAllWere() {
        for (int by = 1; by <= 5; by++) {
            CaseElsewhere x = new CaseElsewhere();
            ints(x, 1, 1, 2, 3, 4, 5, 6);
            due.is("shift on by " + by, x.shift(1, 0, 1, by, 6 - by), 6 - by);
            int[] want = {1, 2, 3, 4, 5, 6};
            System.arraycopy(new int[] {1, 2, 3, 4, 5, 6}, 0, want, by, 6 - by);
            row(x, 1, want);
            ints(x, 1, 1, 2, 3, 4, 5, 6);
            due.is("shift back by " + by, x.shift(1, by, 1, 0, 6 - by), 6 - by);
            int[] back = {1, 2, 3, 4, 5, 6};
            System.arraycopy(new int[] {1, 2, 3, 4, 5, 6}, by, back, 0, 6 - by);
            row(x, 1, back);
        }
        CaseElsewhere y = new CaseElsewhere();
        ints(y, 1, 1, 2, 3);
        due.is("shift to where they are", y.shift(1, 0, 1, 0, 3), 3);
        row(y, 1, 1, 2, 3);
    }

    /** "beyond either's end": up to it is not. */
    private static void shiftAtTheEnds() {
        CaseElsewhere x = new CaseElsewhere();
        ints(x, 0, 1, 2, 3);
        ints(x, 5, 7, 8, 9, 10);
        due.is("shift(0, 0, 5, 0, 3)", x.shift(0, 0, 5, 0, 3), 3);
        row(x, 5, 1, 2, 3, 10);
        due.is("shift(0, 0, 5, 1, 3)", x.shift(0, 0, 5, 1, 3), 3);
        row(x, 5, 1, 1, 2, 3);
        due.is("shift(0, 0, 5, 2, 3)", x.shift(0, 0, 5, 2, 3), -13);
        due.is("shift(0, 0, 5, 0, 4)", x.shift(0, 0, 5, 0, 4), -13);
        due.is("shift(0, 1, 5, 0, 3)", x.shift(0, 1, 5, 0, 3), -13);
        due.is("shift(5, 0, 0, 0, 4)", x.shift(5, 0, 0, 0, 4), -13);
        row(x, 0, 1, 2, 3);
        row(x, 5, 1, 1, 2, 3);
        due.is("shift(5, 3, 0, 2, 1)", x.shift(5, 3, 0, 2, 1), 1);
        due.is("shift(5, 1, 0, 0, 3)", x.shift(5, 1, 0, 0, 3), 3);
        row(x, 0, 1, 2, 3);
    }

    private static void shiftNone() {
        CaseElsewhere x = new CaseElsewhere();
        ints(x, 0, 1, 2, 3);
        x.tape(1, 2, 0);
        due.is("shift(0, 0, 1, 0, 0)", x.shift(0, 0, 1, 0, 0), 0);
        due.is("shift(0, 3, 1, 0, 0)", x.shift(0, 3, 1, 0, 0), 0);
        due.is("shift(1, 0, 0, 3, 0)", x.shift(1, 0, 0, 3, 0), 0);
        due.is("shift(1, 0, 1, 0, 0)", x.shift(1, 0, 1, 0, 0), 0);
        due.is("shift(0, 4, 1, 0, 0)", x.shift(0, 4, 1, 0, 0), -13);
        due.is("shift(0, 0, 1, 1, 0)", x.shift(0, 0, 1, 1, 0), -13);
        due.is("shift(0, 0, 1, 0, 1)", x.shift(0, 0, 1, 0, 1), -13);
        due.is("shift(1, 0, 0, 0, 1)", x.shift(1, 0, 0, 0, 1), -13);
        row(x, 0, 1, 2, 3);
        row(x, 1);
    }

    private static void shiftOfEachSort() {
        long[] item = {-56, 4464, 123456789, 9999999999L, 1};
        for (int sort = 0; sort <= 4; sort++) {
            CaseElsewhere x = new CaseElsewhere();
            x.tape(0, sort, 2);
            x.tape(1, sort, 2);
            x.item(0, 1, item[sort]);
            due.is("shift of sort " + sort, x.shift(0, 1, 1, 0, 1), 1);
            due.is("read(1, 0)", x.read(1, 0), item[sort]);
            due.is("read(1, 1)", x.read(1, 1), 0);
            due.is("read(0, 1)", x.read(0, 1), item[sort]);
            for (int other = 0; other <= 4; other++) {
                x.tape(2, other, 2);
                due.is("shift to sort " + other, x.shift(0, 0, 2, 0, 1), other == sort ? 1 : -12);
                due.is("shift from sort " + other, x.shift(2, 0, 0, 0, 1), other == sort ? 1 : -12);
            }
        }
    }

    /** A row is bounded by its own end, not by the other one's. */
    private static void shiftOfUnlikeLengths() {
        CaseElsewhere x = new CaseElsewhere();
        x.tape(0, 3, 60);
        x.tape(1, 3, 1);
        x.item(0, 59, 5);
        due.is("shift(0, 59, 1, 0, 1)", x.shift(0, 59, 1, 0, 1), 1);
        due.is("read(1, 0)", x.read(1, 0), 5);
        due.is("shift(1, 0, 0, 0, 1)", x.shift(1, 0, 0, 0, 1), 1);
        due.is("read(0, 0)", x.read(0, 0), 5);
        due.is("shift(1, 0, 0, 0, 2)", x.shift(1, 0, 0, 0, 2), -13);
        due.is("shift(0, 58, 1, 0, 2)", x.shift(0, 58, 1, 0, 2), -13);
        due.is("shift(0, 60, 1, 1, 0)", x.shift(0, 60, 1, 1, 0), 0);
        due.is("shift(0, 61, 1, 1, 0)", x.shift(0, 61, 1, 1, 0), -13);
        due.is("shift(1, 2, 0, 0, 0)", x.shift(1, 2, 0, 0, 0), -13);
    }

    /** All 60 at once, from TAPE to TAPE and within one. */
    private static void shiftAcrossSixty() {
        CaseElsewhere x = new CaseElsewhere();
        x.tape(4, 1, 60);
        x.tape(5, 1, 60);
        for (int i = 0; i < 60; i++) {
            x.item(4, i, i + 1);
        }
        due.is("shift(4, 0, 5, 0, 60)", x.shift(4, 0, 5, 0, 60), 60);
        due.is("shift(4, 0, 4, 1, 59)", x.shift(4, 0, 4, 1, 59), 59);
        due.is("shift(4, 0, 5, 0, 61)", x.shift(4, 0, 5, 0, 61), -13);
        due.is("shift(4, 1, 5, 0, 60)", x.shift(4, 1, 5, 0, 60), -13);
        for (int i = 0; i < 60; i++) {
            due.is("read(5, " + i + ")", x.read(5, i), i + 1);
            due.is("read(4, " + i + ")", x.read(4, i), i == 0 ? 1 : i);
        }
    }
}
