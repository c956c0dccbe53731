/** Promises 4 to 6: bag, of, set. */
public final class CasesTest {
    private static final Due due = new Due();

    public static void main(String[] args) {
        bag();
        bagRefusals();
        of();
        seenByKind();
        set();
        due.end();
    }

    private static void bag() {
        CaseElsewhere x = new CaseElsewhere();
        for (int i = 0; i < 6; i++) {
            due.is("bag " + i, x.bag(i, i, i, i + 1, i * 111), i);
        }
        due.is("a 7th CASE", x.bag(0, 0, 0, 0, 0), -4);
        due.is("a 7th CASE of no KIND", x.bag(7, 0, 0, 0, 0), -1);
        due.is("a 7th CASE of bad v", x.bag(0, 10, 0, 0, 0), -2);
        due.is("count(0)", x.count(0), 6);
    }

    private static void bagRefusals() {
        CaseElsewhere x = new CaseElsewhere();
        int[] none = {-1, 8, Integer.MIN_VALUE, Integer.MAX_VALUE};
        for (int n : none) {
            due.is("bag of KIND " + n, x.bag(n, 0, 0, 0, 0), -1);
            due.is("bag on BELT " + n, x.bag(0, 0, n, 0, 0), -1);
            due.is("bag with SLIP " + n, x.bag(0, 0, 0, n, 0), -1);
            due.is("bag with SLIP " + n + " and bad v, marks", x.bag(0, -1, 0, n, -1), -1);
        }
        due.is("bag of KIND 7", x.bag(7, 0, 0, 0, 0), -1);
        due.is("bag with v -1", x.bag(0, -1, 0, 0, 0), -2);
        due.is("bag with v 10", x.bag(0, 10, 0, 0, 0), -2);
        due.is("bag with marks -1", x.bag(0, 0, 0, 0, -1), -2);
        due.is("bag with marks 1000", x.bag(0, 0, 0, 0, 1000), -2);
        due.is("count(0)", x.count(0), 0);
        due.is("bag at the bounds", x.bag(6, 9, 7, 7, 999), 0);
        due.is("bag at the bounds", x.bag(0, 0, 0, 0, 0), 1);
    }

    private static void of() {
        CaseElsewhere x = new CaseElsewhere();
        x.bag(0, 0, 0, 0, 0);
        x.bag(5, 4, 2, 6, 789);
        int[] want = {5, 4, 2, 6, 0, 789, 0, 0, 4, 1, 0};
        for (int what = 0; what < want.length; what++) {
            due.is("of(1, " + what + ")", x.of(1, what), want[what]);
        }
        due.is("of(0, 10), THERE", x.of(0, 10), 1);
        int[][] none = {{-1, 0}, {2, 0}, {6, 0}, {0, -1}, {0, 11}, {0, Integer.MIN_VALUE}, {Integer.MAX_VALUE, 0}};
        for (int[] n : none) {
            due.is("of(" + n[0] + ", " + n[1] + ")", x.of(n[0], n[1]), -1);
        }
    }

    private static void seenByKind() {
        CaseElsewhere x = new CaseElsewhere();
        for (int kind = 1; kind <= 6; kind++) {
            x.bag(kind, 2, 2, 5, 0);
        }
        int[] plain = {8, 2, 7, 10, 0, 3};
        int[] torn = {8, 2, 2, 10, 0, 1};
        int[] blurred = {1, 2, 0, 3, 0, 0};
        int[] blurredElsewhere = {1, 2, 0, 3, 2, 0};
        for (int i = 0; i < 6; i++) {
            due.is("SEEN of KIND " + (i + 1), x.of(i, 8), plain[i]);
            x.set(i, 1, 5);
            due.is("SEEN of KIND " + (i + 1) + ", TORN 5", x.of(i, 8), torn[i]);
        }
        Due.hall(x, "blur 7 b<9");
        for (int i = 0; i < 6; i++) {
            due.is("SEEN of KIND " + (i + 1) + ", blur 7", x.of(i, 8), blurred[i]);
            x.set(i, 2, 3);
            due.is("SEEN of KIND " + (i + 1) + ", blur 7, elsewhere", x.of(i, 8), blurredElsewhere[i]);
        }
        CaseElsewhere y = new CaseElsewhere();
        y.bag(4, 1, 0, 1, 0);
        due.is("SEEN of TAGGED, v 1", y.of(0, 8), 9);
        y.bag(6, 0, 0, 1, 0);
        Due.hall(y, "read 9 k=6;read 9 c=1");
        due.is("SEEN of ROUND: the half of 25, bounded", y.of(1, 8), 10);
        Due.hall(y, "read 2 k=6;blur 4 c=1");
        due.is("SEEN of ROUND: the half of 5, cut", y.of(1, 8), 2);
    }

    private static void set() {
        CaseElsewhere x = new CaseElsewhere();
        x.bag(0, 0, 2, 5, 0);
        due.is("set(0, 0, 7)", x.set(0, 0, 7), 5);
        due.is("set(0, 1, 9)", x.set(0, 1, 9), 0);
        due.is("set(0, 1, 0)", x.set(0, 1, 0), 9);
        due.is("set(0, 2, 0)", x.set(0, 2, 0), 2);
        int[][] none = {{-1, 0, 0}, {1, 0, 0}, {0, -1, 0}, {0, 3, 0}, {0, 0, -1}, {0, 0, 8}, {0, 2, -1}, {0, 2, 8},
            {1, 1, 10}, {0, 3, 10}, {Integer.MIN_VALUE, 0, 0}, {0, Integer.MAX_VALUE, 0}};
        for (int[] n : none) {
            due.is("set(" + n[0] + ", " + n[1] + ", " + n[2] + ")", x.set(n[0], n[1], n[2]), -1);
        }
        due.is("set(0, 1, -1)", x.set(0, 1, -1), -2);
        due.is("set(0, 1, 10)", x.set(0, 1, 10), -2);
        int[] want = {0, 0, 0, 7, 0, 0, 0, 0, 7, 1, 0};
        for (int what = 0; what < want.length; what++) {
            due.is("of(0, " + what + ") behind set", x.of(0, what), want[what]);
        }
    }
}
