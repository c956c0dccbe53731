/** Promises 1 to 3: a new object, leads, near. */
public final class BeltsTest {
    private static final Due due = new Due();

    public static void main(String[] args) {
        newObject();
        leads();
        near();
        due.end();
    }

    private static void newObject() {
        CaseElsewhere x = new CaseElsewhere();
        for (int what = 0; what <= 5; what++) {
            due.is("count(" + what + ") of a new object", x.count(what), 0);
        }
        due.is("of(0, 0) of a new object", x.of(0, 0), -1);
        due.is("trace(0) of a new object", x.trace(0), -1);
        due.is("undo() of a new object", x.undo(), -3);
        due.is("whose(-1) of a new object", x.whose(-1), 0);
        due.is("whose(0) of a new object", x.whose(0), -10001);
        due.is("hall() of a new object", x.hall(), -10);
        for (int tape = 0; tape < 6; tape++) {
            due.is("read(" + tape + ", 0) of a new object", x.read(tape, 0), CaseElsewhere.NO);
            due.is("item(" + tape + ", 0, 1) of a new object", x.item(tape, 0, 1), -11);
        }
        for (int belt = 0; belt < 8; belt++) {
            int next = (belt + 1) % 8;
            due.is("leads(" + belt + ", 0, ..) of a new object", x.leads(belt, 0, next), next);
            due.is("leads(" + belt + ", 1, ..) of a new object", x.leads(belt, 1, next), next);
        }
        x.bag(0, 0, 0, 1, 0);
        due.is("SEEN without a HALL", x.of(0, 8), 7);
        due.is("TAKES without a HALL", x.of(0, 9), 1);
        due.is("another new object", new CaseElsewhere().count(0), 0);
    }

    private static void leads() {
        CaseElsewhere x = new CaseElsewhere();
        due.is("leads(7, 0, 3)", x.leads(7, 0, 3), 0);
        due.is("leads(7, 1, 7)", x.leads(7, 1, 7), 0);
        due.is("leads(7, 0, 0)", x.leads(7, 0, 0), 3);
        due.is("leads(7, 1, 0)", x.leads(7, 1, 0), 7);
        int[][] none = {{-1, 0, 0}, {8, 0, 0}, {0, -1, 0}, {0, 2, 0}, {0, 0, -1}, {0, 0, 8}, {0, 1, 8},
            {Integer.MAX_VALUE, 0, 0}, {Integer.MIN_VALUE, 0, 0}, {0, Integer.MIN_VALUE, 0}, {0, 0, Integer.MAX_VALUE}};
        for (int[] n : none) {
            due.is("leads(" + n[0] + ", " + n[1] + ", " + n[2] + ")", x.leads(n[0], n[1], n[2]), -1);
        }
        due.is("leads(0, 0, 1) behind what was refused", x.leads(0, 0, 1), 1);
        due.is("leads(0, 1, 1) behind what was refused", x.leads(0, 1, 1), 1);
    }

    private static void near() {
        CaseElsewhere x = new CaseElsewhere();
        due.is("near(2, 2)", x.near(2, 2), 0);
        due.is("near(2, 3)", x.near(2, 3), 1);
        due.is("near(3, 2)", x.near(3, 2), 7);
        x.leads(3, 1, 1);
        due.is("near(3, 2) by a SECOND", x.near(3, 2), 2);
        due.is("near(3, 1) by a SECOND", x.near(3, 1), 1);
        due.is("near(2, 1) by a SECOND", x.near(2, 1), 2);
        x.leads(3, 0, 3);
        due.is("near(3, 4) by none", x.near(3, 4), -5);
        due.is("near(1, 0) by none", x.near(1, 0), -5);
        due.is("near(3, 3)", x.near(3, 3), 0);
        due.is("near(4, 3)", x.near(4, 3), 6 + 1);
        for (int bad : new int[] {-1, 8, Integer.MIN_VALUE, Integer.MAX_VALUE}) {
            due.is("near(" + bad + ", 0)", x.near(bad, 0), -1);
            due.is("near(0, " + bad + ")", x.near(0, bad), -1);
        }
    }
}
