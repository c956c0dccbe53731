/** Promises 8 and 9: feed, hall. */
public final class HallsTest {
    private static final Due due = new Due();

    public static void main(String[] args) {
        feed();
        faults();
        goodTexts();
        holding();
        behindFaults();
        full();
        truths();
        letters();
        clauses();
        due.end();
    }

    private static void feed() {
        CaseElsewhere x = new CaseElsewhere();
        for (int bad : new int[] {-1, 128, Integer.MIN_VALUE, Integer.MAX_VALUE}) {
            due.is("feed(" + bad + ")", x.feed(bad), -2);
        }
        for (int i = 1; i <= 100; i++) {
            due.is("feed, the " + i + "th", x.feed(i % 2 == 0 ? 0 : 127), i);
        }
        due.is("feed, the 101st", x.feed(65), -4);
        due.is("feed(128), THE TEXT is full", x.feed(128), -2);
        due.is("count(4)", x.count(4), 100);
        due.is("hall of no word", x.hall(), -10);
        due.is("count(4) behind a FAULT", x.count(4), 0);
    }

    /** Each text with its FAULT. */
    private static void faults() {
        fault("", 0);
        fault("x", 0);
        fault(" read 1 b=1", 0);
        fault(";", 0);
        fault("r", 1);
        fault("rx", 1);
        fault("re", 2);
        fault("ro", 2);
        fault("reo", 2);
        fault("rood", 3);
        fault("bluR 1 b=1", 3);
        fault("slov", 3);
        fault("bread 1 b=1", 1);
        fault("read", 4);
        fault("read1 b=1", 4);
        fault("read ", 5);
        fault("read  1 b=1", 5);
        fault("read b=1", 5);
        fault("read 1", 6);
        fault("read 12", 7);
        fault("read 123 b=1", 7);
        fault("read 1;", 6);
        fault("read 1 ", 7);
        fault("read 1  b=1", 7);
        fault("read 1 a=1", 7);
        fault("read 1 B=1", 7);
        fault("read 1 b", 8);
        fault("read 1 b 1", 8);
        fault("read 1 b!1", 8);
        fault("read 1 b=", 9);
        fault("read 1 b==1", 9);
        fault("read 1 b=-1", 9);
        fault("read 1 b=123", 11);
        fault("read 1 b=1 ", 10);
        fault("read 1 b=1)", 10);
        fault("read 1 b=1&", 11);
        fault("read 1 b=1|", 11);
        fault("read 1 b=1&&b=1", 11);
        fault("read 1 b=1&|b=1", 11);
        fault("read 1 b=1;", 11);
        fault("read 1 b=1;;", 11);
        fault("read 1 b=1;x", 11);
        fault("read 1 b=1;ra", 12);
        fault("read 1 (b=1", 11);
        fault("read 1 (b=1;", 11);
        fault("read 1 ()", 8);
        fault("read 1 !", 8);
        fault("read 1 !&", 8);
        fault("room", 4);
        fault("room ", 5);
        fault("room x", 5);
        fault("room 1 b=1", 6);
        fault("room 123", 7);
        fault("room 1;", 7);
        fault("slow 1 (((((b=1)))))", 11);
        fault("slow 1 !!!!!b=1", 11);
        fault("slow 1 !(!(!b=1))", 11);
        fault("slow 1 (b=1|(b=2&(!(!b=1))))", 19);
        fault("slow 1 !(b=4|!(b=3&!d=6))", 19);
        fault("slow 1 ((((b=1))))&((((!b=1))))", 23);
        fault("room 1;room 1;room 1;room 1;room 1;room 1;room 1;room 1;room 1;room 1;", 69);
        fault("room 1;room 1;room 1;room 1;room 1;room 1;room 1;room 1;room 1;room 1;room 1", 69);
        fault("read 1 b=1" + (char) 0, 10);
        fault((char) 0 + "ead", 0);
        StringBuilder long100 = new StringBuilder("read 12 b=1");
        for (int i = 0; i < 22; i++) {
            long100.append("&b=1");
        }
        fault(long100.append('&').toString(), 100);
    }

    private static void fault(String text, int fault) {
        CaseElsewhere x = new CaseElsewhere();
        due.is("hall \"" + text + "\"", Due.hall(x, text), -10 - fault);
        due.is("count(2) behind \"" + text + "\"", x.count(2), 0);
        due.is("count(4) behind \"" + text + "\"", x.count(4), 0);
    }

    private static void goodTexts() {
        String[] good = {
            "room 0", "room 99", "room 07", "read 0 b=0", "blur 99 d<99", "slow 1 k>0", "read 1 t=1", "read 1 g=59",
            "read 1 c=5", "read 1 !b=1", "read 1 !!!!b=1", "read 1 ((((b=1))))", "read 1 !(!(b=1))",
            "read 1 b=1&b=2|b=3&!b=4|(b=5|b=6)&b=7", "room 1;room 2", "read 1 b=12;blur 2 b=1|b=2;slow 3 b=1&b=2",
            "read 1 !(b=1)&!(b=2)&!(b=3)&!(b=4)&!(b=5)|((((b=6))))",
            "room 1;room 1;room 1;room 1;room 1;room 1;room 1;room 1;room 1;room 1",
        };
        for (String text : good) {
            due.is("hall \"" + text + "\"", Due.hall(new CaseElsewhere(), text), 0);
        }
    }

    private static void holding() {
        CaseElsewhere x = new CaseElsewhere();
        x.bag(0, 0, 0, 1, 0);
        due.is("the first HALL", Due.hall(x, "read 1 b=0"), 0);
        due.is("SEEN in the first HALL", x.of(0, 8), 8);
        due.is("a FAULT", Due.hall(x, "read 2 b=z"), -19);
        due.is("SEEN behind a FAULT", x.of(0, 8), 8);
        due.is("a FAULT behind a good clause", Due.hall(x, "blur 5 b=0;"), -21);
        due.is("SEEN behind a FAULT", x.of(0, 8), 8);
        due.is("the next HALL", Due.hall(x, "blur 1 b=0"), 1);
        due.is("SEEN in the next HALL: only the newest counts", x.of(0, 8), 6);
        due.is("count(2)", x.count(2), 2);
        due.is("hall() of no text", x.hall(), -10);
    }

    /** Nothing of a text that was refused is left. */
    private static void behindFaults() {
        CaseElsewhere x = new CaseElsewhere();
        x.bag(0, 0, 3, 5, 0);
        due.is("a FAULT behind a good clause", Due.hall(x, "read 2 b=3;x"), -21);
        due.is("a shorter text", Due.hall(x, "re"), -12);
        due.is("no text", x.hall(), -10);
        due.is("a good text behind", Due.hall(x, "slow 1 b=3"), 0);
        due.is("SEEN behind FAULTS", x.of(0, 8), 7);
        due.is("TAKES behind FAULTS", x.of(0, 9), 2);
        String text = "read 2 b=3" + "|b=4".repeat(22);
        due.is("a long text", Due.hall(x, text), 1);
        due.is("SEEN by a long text", x.of(0, 8), 9);
        due.is("a long text of !", Due.hall(x, text.replace("|b=4", "&!b=4").substring(0, 95)), 2);
        due.is("SEEN by a long text of !", x.of(0, 8), 9);
        behindLongFaults("b=3", "b=4", 1);
        behindLongFaults("b=4", "b=3", 2);
    }

    /** More tests were refused than a HALL could hold; what is good behind them counts alone. */
    private static void behindLongFaults(String refused, String good, int takes) {
        CaseElsewhere x = new CaseElsewhere();
        x.bag(0, 0, 3, 5, 0);
        for (int i = 0; i < 4; i++) {
            due.is("a FAULT behind many tests", Due.hall(x, "slow 9 " + refused + ("|" + refused).repeat(22) + "|"), -109);
        }
        due.is("a good text behind", Due.hall(x, "slow 1 " + good), 0);
        due.is("TAKES behind many tests", x.of(0, 9), takes);
    }

    private static void full() {
        CaseElsewhere x = new CaseElsewhere();
        x.bag(0, 0, 0, 1, 0);
        for (int i = 0; i < 6; i++) {
            due.is("HALL " + i, Due.hall(x, "blur " + i + " b=0"), i);
        }
        due.is("a 7th HALL", Due.hall(x, "blur 7 b=0"), -4);
        due.is("count(4): THE TEXT stays", x.count(4), 10);
        due.is("a 7th HALL, faulty", Due.hall(x, "x"), -4);
        due.is("count(4): THE TEXT stays", x.count(4), 11);
        due.is("SEEN: the 6th holds", x.of(0, 8), 2);
    }

    /** E of one CASE on BELT 3 with SLIP 5. */
    private static void truths() {
        truth("b=3", true);
        truth("b=4", false);
        truth("b<3", false);
        truth("b<4", true);
        truth("b>3", false);
        truth("b>2", true);
        truth("b=03", true);
        truth("!b=3", false);
        truth("!!b=3", true);
        truth("b=3&d=5", true);
        truth("b=3&d=6", false);
        truth("b=4&d=5", false);
        truth("b=3|d=6", true);
        truth("b=4|d=5", true);
        truth("b=4|d=6", false);
        // & binds closer than |, ! closer than &
        truth("b=3|b=3&b=4", true);
        truth("b=4&b=4|b=3", true);
        truth("(b=3|b=3)&b=4", false);
        truth("b=4&(b=4|b=3)", false);
        truth("!b=3&b=4", false);
        truth("!b=3|b=3", true);
        truth("!(b=3|b=3)", false);
        truth("!(b=3&b=4)", true);
        truth("b=4|b=4&b=3|b=3&b=4|b=3", true);
        truth("b=4|b=4&b=3|b=3&b=4|b=5", false);
        truth("!(b=4|!(b=3&d=5))", true);
        truth("((((b=3))))", true);
        truth("!(!(b=3))", true);
        truth("b=3&b=3&b=3&b=4|b=3&d=5", true);
        truth("b=3|b=4|b=4", true);
        truth("b=4|b=3|b=4", true);
        truth("b=4|b=4|b=3", true);
        truth("b=3&(b=3)", true);
        truth("b=3&(b=4|d=5)", true);
        truth("b=3&(d=5|b=4)&d=5", true);
        truth("b=4|(b=3&d=5)", true);
        truth("b=3&(b=4|(d=5&(b=4|d=5)))", true);
        truth("b=3&(b=4|(d=5&(b=4|d=4)))", false);
        truth("(b=4|d=5)&(b=3|d=4)", true);
    }

    private static void truth(String e, boolean isSo) {
        CaseElsewhere x = new CaseElsewhere();
        x.bag(0, 0, 3, 5, 0);
        due.is("hall read 2 " + e, Due.hall(x, "read 2 " + e), 0);
        due.is("SEEN by read 2 " + e, x.of(0, 8), isSo ? 9 : 7);
    }

    private static void letters() {
        CaseElsewhere x = new CaseElsewhere();
        x.bag(0, 0, 0, 1, 0);
        x.bag(3, 0, 2, 7, 0);
        x.set(1, 1, 6);
        x.ride(1, false);
        x.ride(1, false);
        x.ride(1, false);
        String[] so = {"b=5", "d=7", "k=3", "t=6", "g=3", "c=1"};
        for (String test : so) {
            Due.hall(x, "slow 4 " + test);
            due.is("TAKES by " + test, x.of(1, 9), 5);
            due.is("TAKES of another CASE by " + test, x.of(0, 9), 1);
        }
        CaseElsewhere y = new CaseElsewhere();
        y.bag(0, 0, 0, 7, 0);
        y.leads(1, 0, 0);
        Due.hall(y, "slow 1 g=0;slow 2 g=59;slow 5 g>59");
        for (int i = 0; i < 125; i++) {
            int want = i % 60 == 0 ? 2 : i % 60 == 59 ? 3 : 1;
            due.is("TAKES behind " + i + " STEPS", y.of(0, 9), want);
            y.ride(0, false);
        }
        due.is("MINUTES behind 125 STEPS", y.of(0, 7), 125 + 3 + 2 * 2);
    }

    private static void clauses() {
        CaseElsewhere x = new CaseElsewhere();
        x.bag(0, 0, 3, 5, 0);
        Due.hall(x, "read 1 b=3;read 2 d=5;read 9 b=4;blur 4 k=0;slow 7 b=3;slow 20 d=5;slow 50 c=1;room 2;room 1");
        due.is("count(2)", x.count(2), 1);
        due.is("SEEN: all read less all blur", x.of(0, 8), 6);
        due.is("TAKES: all slow", x.of(0, 9), 28);
        Due.hall(x, "read 99 b=3;blur 98 b=3");
        due.is("SEEN is bounded but at the end", x.of(0, 8), 8);
        Due.hall(x, "read 4 b=3");
        due.is("SEEN above 10", x.of(0, 8), 10);
        Due.hall(x, "blur 8 b=3");
        due.is("SEEN below 0", x.of(0, 8), 0);
    }
}
