/** Promises 32 to 35: tape, item, read, shift. */
public final class TapesTest {
    private static final Due due = new Due();

    public static void main(String[] args) {
        tape();
        sorts();
        item();
        shift();
        shiftRefusals();
        due.end();
    }

    private static void tape() {
        CaseElsewhere x = new CaseElsewhere();
        for (int none : new int[] {-1, 6, Integer.MIN_VALUE, Integer.MAX_VALUE}) {
            due.is("tape(" + none + ", 0, 1)", x.tape(none, 0, 1), -1);
            due.is("tape(" + none + ", 9, 99)", x.tape(none, 9, 99), -1);
        }
        int[][] bad = {{-2, 0}, {5, 0}, {5, -1}, {0, 61}, {0, Integer.MAX_VALUE}, {Integer.MIN_VALUE, 0}, {-2, -1}};
        for (int[] b : bad) {
            due.is("tape(0, " + b[0] + ", " + b[1] + ")", x.tape(0, b[0], b[1]), -2);
        }
        due.is("tape(0, 0, -1)", x.tape(0, 0, -1), -14);
        due.is("tape(0, 4, least)", x.tape(0, 4, Integer.MIN_VALUE), -14);
        due.is("item of a refused TAPE", x.item(0, 0, 0), -11);
        due.is("tape(0, 3, 60)", x.tape(0, 3, 60), 1);
        due.is("item(0, 59, 7)", x.item(0, 59, 7), 1);
        due.is("item(0, 0, 8)", x.item(0, 0, 8), 1);
        due.is("tape(0, 3, 61)", x.tape(0, 3, 61), -2);
        due.is("tape(0, 3, -1)", x.tape(0, 3, -1), -14);
        due.is("read(0, 59) behind what was refused", x.read(0, 59), 7);
        due.is("tape(0, 3, 60) again", x.tape(0, 3, 60), 1);
        due.is("read(0, 59): all 0", x.read(0, 59), 0);
        due.is("read(0, 0): all 0", x.read(0, 0), 0);
        due.is("tape(0, 0, 0)", x.tape(0, 0, 0), 1);
        due.is("item of an empty row", x.item(0, 0, 0), -13);
        due.is("read of an empty row", x.read(0, 0), CaseElsewhere.NO);
        for (int n : new int[] {0, -1, 61, 99, Integer.MIN_VALUE, Integer.MAX_VALUE}) {
            due.is("tape(0, -1, " + n + ")", x.tape(0, -1, n), 1);
            due.is("item behind it", x.item(0, 0, 0), -11);
            due.is("read behind it", x.read(0, 0), CaseElsewhere.NO);
        }
        due.is("tape(5, 0, 1)", x.tape(5, 0, 1), 1);
        due.is("read(5, 0)", x.read(5, 0), 0);
    }

    private static void sorts() {
        long[] values = {0, 1, -1, 127, 128, 255, 256, 32767, 32768, 65536, 2147483647L, 2147483648L, 4294967296L,
            Long.MAX_VALUE, Long.MIN_VALUE, -129};
        CaseElsewhere x = new CaseElsewhere();
        for (int sort = 0; sort <= 4; sort++) {
            x.tape(sort, sort, 1);
            for (long v : values) {
                long[] want = {(byte) v, (short) v, (int) v, v, v == 0 ? 0 : 1};
                due.is("item(" + sort + ", 0, " + v + ")", x.item(sort, 0, v), 1);
                due.is("read of sort " + sort + " behind " + v, x.read(sort, 0), want[sort]);
            }
        }
    }

    private static void item() {
        CaseElsewhere x = new CaseElsewhere();
        x.tape(0, 2, 3);
        for (int none : new int[] {-1, 6, Integer.MIN_VALUE, Integer.MAX_VALUE}) {
            due.is("item(" + none + ", 0, 1)", x.item(none, 0, 1), -1);
            due.is("read(" + none + ", 0)", x.read(none, 0), CaseElsewhere.NO);
        }
        for (int place : new int[] {-1, 3, 60, Integer.MIN_VALUE, Integer.MAX_VALUE}) {
            due.is("item(0, " + place + ", 1)", x.item(0, place, 1), -13);
            due.is("item(1, " + place + ", 1)", x.item(1, place, 1), -11);
            due.is("read(0, " + place + ")", x.read(0, place), CaseElsewhere.NO);
            due.is("read(1, " + place + ")", x.read(1, place), CaseElsewhere.NO);
        }
        due.is("item(0, 2, 9)", x.item(0, 2, 9), 1);
        due.is("read(0, 2)", x.read(0, 2), 9);
        due.is("read(0, 1)", x.read(0, 1), 0);
        x.tape(1, 2, 3);
        due.is("read(1, 2): another TAPE", x.read(1, 2), 0);
    }

    private static void shift() {
        CaseElsewhere x = new CaseElsewhere();
        Due.bytes(x, 0, 1, 2, 3, 4, 5);
        due.is("shift on", x.shift(0, 0, 0, 1, 4), 4);
        row(x, 0, 1, 1, 2, 3, 4);
        Due.bytes(x, 0, 1, 2, 3, 4, 5);
        due.is("shift back", x.shift(0, 1, 0, 0, 4), 4);
        row(x, 0, 2, 3, 4, 5, 5);
        Due.bytes(x, 1, 9, 9, 9);
        due.is("shift to another", x.shift(0, 3, 1, 1, 2), 2);
        row(x, 1, 9, 5, 5);
        row(x, 0, 2, 3, 4, 5, 5);
        due.is("shift none", x.shift(0, 5, 1, 3, 0), 0);
        due.is("shift all", x.shift(1, 0, 0, 2, 3), 3);
        row(x, 0, 2, 3, 9, 5, 5);
    }

    private static void row(CaseElsewhere x, int tape, int... want) {
        for (int i = 0; i < want.length; i++) {
            due.is("read(" + tape + ", " + i + ")", x.read(tape, i), want[i]);
        }
        due.is("read behind the end", x.read(tape, want.length), CaseElsewhere.NO);
    }

    private static void shiftRefusals() {
        CaseElsewhere x = new CaseElsewhere();
        Due.bytes(x, 0, 1, 2, 3, 4);
        Due.bytes(x, 1, 5, 6, 7);
        x.tape(2, 1, 9);
        due.is("shift from no TAPE", x.shift(-1, 0, 0, 0, 0), -1);
        due.is("shift from no TAPE", x.shift(6, 0, 0, 0, 0), -1);
        due.is("shift to no TAPE", x.shift(0, 0, -1, 0, 0), -1);
        due.is("shift to no TAPE", x.shift(3, 0, 6, -1, -1), -1);
        due.is("shift from nothing", x.shift(3, 0, 2, 0, 0), -11);
        due.is("shift to nothing", x.shift(2, -1, 3, 0, 0), -11);
        due.is("shift of unlike sorts", x.shift(0, 0, 2, 0, 1), -12);
        due.is("shift of unlike sorts, no places", x.shift(2, -1, 0, -1, -1), -12);
        int max = Integer.MAX_VALUE;
        int min = Integer.MIN_VALUE;
        int[][] places = {{-1, 0, 1}, {0, -1, 1}, {0, 0, -1}, {0, 0, 4}, {2, 0, 3}, {0, 1, 3}, {5, 0, 0}, {0, 4, 0},
            {max, 0, 0}, {0, max, 0}, {0, 0, max}, {min, 0, 0}, {0, min, 0}, {0, 0, min}, {max, max, max},
            {1, 1, max}, {min, min, min}};
        for (int[] p : places) {
            due.is("shift(0, " + p[0] + ", 1, " + p[1] + ", " + p[2] + ")", x.shift(0, p[0], 1, p[1], p[2]), -13);
        }
        row(x, 0, 1, 2, 3, 4);
        row(x, 1, 5, 6, 7);
    }
}
