/** BELTS, CASES, OWNERS and their numbers: the last ones that are as told, on either side; what is 0 at first. */
public final class NumbersEdgesTest {
    private static final Due due = new Due();

    public static void main(String[] args) {
        beltsAtFirst();
        beltsLead();
        beltsNear();
        beltsOfCases();
        beltsOfOwners();
        beltsOfWhere();
        beltsOfFilm();
        kindsAndNumbers();
        marksOfCases();
        marksOfOwners();
        tornSet();
        zeroAtFirst();
        zeroBehindUndo();
        sixCases();
        sixOwners();
        noCases();
        counts();
        due.end();
    }

    /** "both to the next one by number at first, 7 to 0". */
    private static void beltsAtFirst() {
        CaseElsewhere x = new CaseElsewhere();
        for (int belt = 0; belt <= 7; belt++) {
            int next = belt == 7 ? 0 : belt + 1;
            due.is("leads(" + belt + ", 0, " + belt + ") at first", x.leads(belt, 0, belt), next);
            due.is("leads(" + belt + ", 1, " + belt + ") at first", x.leads(belt, 1, belt), next);
        }
    }

    /** Each BELT may lead to each, by the FIRST and the SECOND, and only that one is changed. */
    private static void beltsLead() {
        CaseElsewhere x = new CaseElsewhere();
        int[][] leads = new int[2][8];
        for (int belt = 0; belt <= 7; belt++) {
            leads[0][belt] = (belt + 1) % 8;
            leads[1][belt] = (belt + 1) % 8;
        }
        for (int i = 0; i < 128; i++) {
            int what = i & 1;
            int belt = i >> 1 & 7;
            int other = (i >> 4 & 7) ^ belt;
            due.is("leads(" + belt + ", " + what + ", " + other + ")", x.leads(belt, what, other), leads[what][belt]);
            leads[what][belt] = other;
        }
        for (int belt = 0; belt <= 7; belt++) {
            due.is("leads(" + belt + ", 0, 0)", x.leads(belt, 0, 0), leads[0][belt]);
            due.is("leads(" + belt + ", 1, 0)", x.leads(belt, 1, 0), leads[1][belt]);
        }
    }

    /** "NEAR .. (0: one BELT; -5: by none)"; by 7 STEPS at the most. */
    private static void beltsNear() {
        CaseElsewhere x = new CaseElsewhere();
        for (int belt = 0; belt <= 7; belt++) {
            for (int other = 0; other <= 7; other++) {
                due.is("near(" + belt + ", " + other + ")", x.near(belt, other), (other - belt + 8) % 8);
            }
        }
        for (int belt = 0; belt <= 7; belt++) {
            x.leads(belt, 0, belt);
            x.leads(belt, 1, belt);
        }
        for (int belt = 0; belt <= 7; belt++) {
            for (int other = 0; other <= 7; other++) {
                due.is("near(" + belt + ", " + other + "), no way", x.near(belt, other), belt == other ? 0 : -5);
            }
        }
        x.leads(7, 1, 0);
        x.leads(0, 0, 7);
        due.is("near(7, 0) by a SECOND", x.near(7, 0), 1);
        due.is("near(0, 7) by a FIRST", x.near(0, 7), 1);
        due.is("near(7, 1)", x.near(7, 1), -5);
    }

    private static void beltsOfCases() {
        for (int belt = 0; belt <= 7; belt++) {
            CaseElsewhere x = new CaseElsewhere();
            due.is("bag on BELT " + belt, x.bag(0, 0, belt, 7 - belt, 0), 0);
            due.is("its BELT", x.of(0, 2), belt);
            due.is("its SLIP", x.of(0, 3), 7 - belt);
            due.is("not THERE", x.of(0, 10), 0);
            due.is("set(0, 0, " + belt + ")", x.set(0, 0, belt), 7 - belt);
            due.is("its SLIP", x.of(0, 3), belt);
            due.is("THERE", x.of(0, 10), 1);
            due.is("set(0, 2, " + (7 - belt) + ")", x.set(0, 2, 7 - belt), belt);
            due.is("its BELT", x.of(0, 2), 7 - belt);
            due.is("its SLIP stays", x.of(0, 3), belt);
            due.is("its STEPS stay", x.of(0, 6), 0);
        }
    }

    private static void beltsOfOwners() {
        CaseElsewhere x = new CaseElsewhere();
        due.is("owner(0, 0)", x.owner(0, 0), 0);
        due.is("owner(0, 7)", x.owner(0, 7), 1);
        for (int belt = 0; belt <= 5; belt++) {
            x.bag(0, 0, belt == 5 ? 7 : belt, 6, 111);
        }
        int[] want = {1, 0, 0, 0, 0, 0};
        int[] other = {0, 0, 0, 0, 0, 1};
        for (int bag = 0; bag <= 5; bag++) {
            due.is("fit(0, " + bag + ")", x.fit(0, bag), want[bag]);
            due.is("fit(1, " + bag + ")", x.fit(1, bag), other[bag]);
        }
    }

    private static void beltsOfWhere() {
        CaseElsewhere x = new CaseElsewhere();
        x.bag(0, 0, 7, 0, 0);
        for (int belt = 0; belt <= 7; belt++) {
            due.is("where(0, 0, " + belt + ", 0)", x.where(0, 0, belt, 0), belt == 7 ? 1 : 0);
            due.is("where(0, 0, " + belt + ", 1)", x.where(0, 0, belt, 1), 1);
            due.is("where(0, 1, " + belt + ", 0)", x.where(0, 1, belt, 0), belt == 0 ? 1 : 0);
            due.is("where(0, 1, " + belt + ", 1)", x.where(0, 1, belt, 1), 1);
        }
    }

    private static void beltsOfFilm() {
        for (int belt = 0; belt <= 7; belt++) {
            CaseElsewhere x = new CaseElsewhere();
            x.bag(0, 0, belt, 0, 0);
            due.is("film(" + belt + ")", x.film(belt), 1);
            due.is("could(0) on " + belt, x.could(0), -5);
            due.is("film(-1)", x.film(-1), 0);
            due.is("film(" + (7 - belt) + ")", x.film(7 - belt), 1);
            due.is("could(0) on " + belt, x.could(0), 0);
        }
    }

    /** "KINDS: 0 .. 6", "a number v (0 .. 9)". */
    private static void kindsAndNumbers() {
        for (int kind = 0; kind <= 6; kind++) {
            for (int v = 0; v <= 9; v++) {
                CaseElsewhere x = new CaseElsewhere();
                due.is("bag of KIND " + kind + ", v " + v, x.bag(kind, v, 0, 1, 0), 0);
                due.is("its KIND", x.of(0, 0), kind);
                due.is("its v", x.of(0, 1), v);
                due.is("taken(0, 0)", x.taken(0, 0), kind);
                due.is("taken(0, " + kind + ")", x.taken(0, kind), kind);
            }
        }
    }

    /** "MARKS (three digits)": 0 .. 999. */
    private static void marksOfCases() {
        int[] all = {0, 1, 9, 10, 99, 100, 998, 999};
        for (int marks : all) {
            CaseElsewhere x = new CaseElsewhere();
            due.is("bag with MARKS " + marks, x.bag(0, 0, 0, 1, marks), 0);
            due.is("its MARKS", x.of(0, 5), marks);
            due.is("like(" + marks + ", 0)", x.like(marks, 0), 1);
            due.is("like(" + (999 - marks) + ", 2)", x.like(999 - marks, 2), 0);
            due.is("like(" + (999 - marks) + ", 3)", x.like(999 - marks, 3), 1);
        }
    }

    private static void marksOfOwners() {
        int[] all = {0, 1, 10, 100, 998, 999};
        CaseElsewhere x = new CaseElsewhere();
        for (int i = 0; i < all.length; i++) {
            due.is("owner(" + all[i] + ", 7)", x.owner(all[i], 7), i);
            x.bag(0, 0, 0, 1, all[i]);
        }
        int[] wantOf0 = {3, 2, 2, 2, 0, 0};
        int[] wantOf999 = {0, 0, 0, 0, 2, 3};
        for (int bag = 0; bag < all.length; bag++) {
            due.is("fit(0, " + bag + ")", x.fit(0, bag), wantOf0[bag]);
            due.is("fit(5, " + bag + ")", x.fit(5, bag), wantOf999[bag]);
        }
    }

    /** "TORN (0 .. 9)". */
    private static void tornSet() {
        CaseElsewhere x = new CaseElsewhere();
        x.bag(0, 0, 0, 1, 0);
        int before = 0;
        for (int torn = 9; torn >= 0; torn--) {
            due.is("set(0, 1, " + torn + ")", x.set(0, 1, torn), before);
            due.is("its TORN", x.of(0, 4), torn);
            before = torn;
        }
        due.is("its BELT stays", x.of(0, 2), 0);
        due.is("its SLIP stays", x.of(0, 3), 1);
    }

    /** "TORN (0 .. 9; 0 at first), .. STEPS gone, MINUTES gone (0 at first)". */
    private static void zeroAtFirst() {
        CaseElsewhere x = new CaseElsewhere();
        for (int i = 0; i < 6; i++) {
            x.bag(6 - i, 9 - i, i, 7 - i, 999 - i);
            due.is("TORN at first", x.of(i, 4), 0);
            due.is("STEPS at first", x.of(i, 6), 0);
            due.is("MINUTES at first", x.of(i, 7), 0);
        }
    }

    /** A CASE that comes where another one was undone is a new one. */
    private static void zeroBehindUndo() {
        CaseElsewhere x = new CaseElsewhere();
        x.image();
        for (int i = 0; i < 6; i++) {
            x.bag(6, 9, i, 7, 999);
            x.set(i, 1, 9);
            x.ride(i, true);
            due.is("STEPS", x.of(i, 6), 1);
            due.is("MINUTES", x.of(i, 7), 1);
        }
        due.is("undo()", x.undo(), 0);
        for (int i = 0; i < 6; i++) {
            due.is("of(" + i + ", 0) behind undo()", x.of(i, 0), -1);
            due.is("bag behind undo()", x.bag(0, 1, 2, 3, 4), i);
            int[] want = {0, 1, 2, 3, 0, 4, 0, 0, 7, 1, 0};
            for (int what = 0; what < want.length; what++) {
                due.is("of(" + i + ", " + what + ") of a CASE behind undo()", x.of(i, what), want[what]);
            }
        }
    }

    /** "CASES 0 .. 5, as they come": the newest is one, the next is none yet. */
    private static void sixCases() {
        CaseElsewhere x = new CaseElsewhere();
        x.owner(123, 0);
        for (int i = 0; i < 6; i++) {
            asksOfNone(x, i);
            due.is("bag " + i, x.bag(0, 0, 0, 1, 123), i);
            due.is("count(0)", x.count(0), i + 1);
            asksOfOne(x, i);
        }
        due.is("a 7th", x.bag(0, 0, 0, 1, 123), -4);
        asksOfNone(x, 6);
        asksOfOne(x, 5);
        asksOfNone(x, -1);
    }

    private static void asksOfNone(CaseElsewhere x, int bag) {
        String none = "of no CASE " + bag;
        due.is("of " + none, x.of(bag, 0), -1);
        due.is("set " + none, x.set(bag, 1, 0), -1);
        due.is("ride " + none, x.ride(bag, true), -1);
        due.is("by " + none, x.by(bag, 1, 0), CaseElsewhere.NO);
        due.is("where " + none, x.where(bag, 1, 0, 0), CaseElsewhere.NO);
        due.is("soonest " + none, x.soonest(bag, 0), -1);
        due.is("ring " + none, x.ring(bag), -1);
        due.is("steps " + none, x.steps(bag, 0), -1);
        due.is("fit " + none, x.fit(0, bag), -1);
        due.is("change " + none, x.change(bag, 1, 0), CaseElsewhere.NO);
        due.is("need " + none, x.need(bag, 1), -1);
        if (bag != -1) {
            due.is("room " + none, x.room(bag), -10001);
        }
        due.is("could " + none, x.could(bag), -1);
        due.is("act " + none, x.act(bag, 0, 5), 0);
        due.is("count(5) of act " + none, x.count(5), 0);
        due.is("taken " + none, x.taken(bag, 0), -11);
    }

    private static void asksOfOne(CaseElsewhere x, int bag) {
        String one = "of CASE " + bag;
        due.is("of " + one, x.of(bag, 5), 123);
        due.is("set " + one, x.set(bag, 1, 0), 0);
        due.is("by " + one, x.by(bag, 1, 0), 1);
        due.is("where " + one, x.where(bag, 1, 1, 0), 1);
        due.is("soonest " + one, x.soonest(bag, 0), 1);
        due.is("ring " + one, x.ring(bag), 0);
        due.is("steps " + one, x.steps(bag, 0), 1);
        due.is("fit " + one, x.fit(0, bag), 4);
        due.is("change " + one, x.change(bag, 3, 0), 1);
        due.is("need " + one, x.need(bag, 10), 3);
        due.is("room " + one, x.room(bag), -5);
        due.is("could " + one, x.could(bag), -5);
        due.is("act " + one, x.act(bag, 0, 5), 5 + bag);
        due.is("count(5) of act " + one, x.count(5), 1);
        due.is("taken " + one, x.taken(bag, 0), 0);
    }

    /** "OWNERS 0 .. 5, as they come". */
    private static void sixOwners() {
        CaseElsewhere x = new CaseElsewhere();
        x.bag(0, 0, 0, 1, 123);
        for (int i = 0; i < 6; i++) {
            due.is("fit of no OWNER " + i, x.fit(i, 0), -1);
            due.is("whose of no OWNER " + i, x.whose(i), -10001);
            due.is("owner " + i, x.owner(i == 5 ? 123 : 923, 7), i);
            due.is("count(1)", x.count(1), i + 1);
            due.is("fit of OWNER " + i, x.fit(i, 0), i == 5 ? 3 : 2);
            due.is("whose of OWNER " + i, x.whose(i), i == 5 || i == 0 ? 0 : -5);
        }
        due.is("a 7th", x.owner(123, 0), -4);
        due.is("fit of no OWNER 6", x.fit(6, 0), -1);
        due.is("fit of no OWNER -1", x.fit(-1, 0), -1);
        due.is("whose of no OWNER 6", x.whose(6), -10001);
        due.is("whose(-1)", x.whose(-1), 3);
    }

    /** What is asked of all where there is none. */
    private static void noCases() {
        CaseElsewhere x = new CaseElsewhere();
        due.is("like(0, 3)", x.like(0, 3), 0);
        due.is("whose(-1)", x.whose(-1), 0);
        due.is("whose(0)", x.whose(0), -10001);
        due.is("changed(0)", x.changed(0), 0);
        due.is("changed(1)", x.changed(1), -5);
        due.is("room(-1)", x.room(-1), 0);
        due.is("room(0)", x.room(0), -10001);
        due.is("image()", x.image(), 0);
        due.is("undo()", x.undo(), 0);
        due.is("trace(0)", x.trace(0), -1);
        x.owner(123, 4);
        due.is("whose(-1), an OWNER alone", x.whose(-1), 0);
        due.is("whose(0), an OWNER alone", x.whose(0), -5);
        due.is("changed(0), an OWNER alone", x.changed(0), 0);
    }

    /** "How many": each by what came, and 0 ahead of that. */
    private static void counts() {
        CaseElsewhere x = new CaseElsewhere();
        for (int what = 0; what <= 5; what++) {
            due.is("count(" + what + ") at first", x.count(what), 0);
        }
        CaseElsewhere y = Made.full();
        int[] want = {6, 6, 6, 12, 100, 6};
        for (int what = 0; what <= 5; what++) {
            due.is("count(" + what + ") of a full one", y.count(what), want[what]);
        }
    }
}
