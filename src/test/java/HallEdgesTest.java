/** "A HALL is read from THE TEXT ..": what its sentences bound, and the FAULT. */
public final class HallEdgesTest {
    private static final Due due = new Due();

    public static void main(String[] args) {
        hundredBytes();
        hundredAndOneBytes();
        signs();
        clauseCount();
        tenthClauseCounts();
        noClauses();
        blanks();
        clauseNumbers();
        testNumbers();
        testSigns();
        fourWithin();
        fiveWithin();
        besideNotWithin();
        faultAtEachPlace();
        tooEarly();
        faultLeavesHolding();
        sixHalls();
        seventhHall();
        newestHolds();
        due.end();
    }

    /** A text of one CASE on BELT 3 with SLIP 5: SEEN then. */
    private static int seen(String text) {
        CaseElsewhere x = new CaseElsewhere();
        x.bag(0, 0, 3, 5, 0);
        due.is("hall of " + text, Due.hall(x, text), 0);
        return x.of(0, 8);
    }

    private static void fault(String text, int fault) {
        due.is("hall of " + text, Due.hall(new CaseElsewhere(), text), -10 - fault);
    }

    /** "THE TEXT (bytes, 100 at most)": the 100th is taken, and read. */
    private static void hundredBytes() {
        CaseElsewhere x = new CaseElsewhere();
        x.bag(0, 0, 3, 5, 0);
        String text = Made.hundred();
        for (int i = 1; i <= 100; i++) {
            due.is("feed, the " + i + "th", x.feed(text.charAt(i - 1)), i);
            due.is("count(4) behind the " + i + "th", x.count(4), i);
        }
        due.is("hall of 100 bytes", x.hall(), 0);
        due.is("SEEN by 100 bytes: all tests hold", x.of(0, 8), 10);
        due.is("THE TEXT is empty then: feed", x.feed('r'), 1);
        due.is("SEEN by 100 bytes: the last test does not hold", seen(text.substring(0, 98) + "=4"), 7);
        due.is("SEEN by 100 bytes: the last test holds", seen(text.substring(0, 98) + "=3"), 10);
        fault(text.substring(0, 99), 99);
        fault(text.substring(0, 99) + "x", 99);
        fault(text.substring(0, 98) + "=&", 99);
        fault("read 1 b=1" + "&b=1".repeat(22) + "|b", 100);
    }

    /** "FULL": the 101st is not taken, and the 100 stay as they are. */
    private static void hundredAndOneBytes() {
        CaseElsewhere x = new CaseElsewhere();
        x.bag(0, 0, 3, 5, 0);
        Due.feed(x, Made.hundred());
        due.is("feed, the 101st", x.feed('x'), -4);
        due.is("feed, the 102nd", x.feed('0'), -4);
        due.is("feed(128) of a full one: BAD ahead of FULL", x.feed(128), -2);
        due.is("count(4)", x.count(4), 100);
        due.is("hall()", x.hall(), 0);
        due.is("count(4) behind hall()", x.count(4), 0);
        due.is("feed behind hall()", x.feed('x'), 1);
    }

    /** "A sign (0 .. 127)". */
    private static void signs() {
        CaseElsewhere x = new CaseElsewhere();
        due.is("feed(-1)", x.feed(-1), -2);
        due.is("feed(128)", x.feed(128), -2);
        due.is("feed(0)", x.feed(0), 1);
        due.is("feed(127)", x.feed(127), 2);
        due.is("feed(1)", x.feed(1), 3);
        due.is("hall()", x.hall(), -10);
        for (int sign : new int[] {0, 127, '\n', '\t'}) {
            fault("read 1 b=1" + (char) sign, 10);
            fault("room 1" + (char) sign, 6);
            fault("" + (char) sign, 0);
            fault("read" + (char) sign, 4);
            fault("read 1 b=" + (char) sign, 9);
        }
    }

    /** "CLAUSES, 1 to 10, with ; between". */
    private static void clauseCount() {
        fault("", 0);
        fault(";", 0);
        fault("room 1;", 7);
        fault("room 1;;room 1", 7);
        fault(";room 1", 0);
        for (int n = 1; n <= 10; n++) {
            String text = "room 1" + ";room 1".repeat(n - 1);
            due.is("hall of " + n + " clauses", Due.hall(new CaseElsewhere(), text), 0);
            fault(text + "room 1", text.length());
            fault(text + " ;room 1", text.length());
            fault(text + ";", n == 10 ? text.length() : text.length() + 1);
        }
        String ten = "room 1" + ";room 1".repeat(9);
        fault(ten + ";room 1", 69);
        fault(ten + ";room 1;room 1", 69);
        fault(ten + ";x", 69);
    }

    private static void tenthClauseCounts() {
        CaseElsewhere x = new CaseElsewhere();
        for (int i = 0; i < 5; i++) {
            x.bag(0, 0, 7, 7, 0);
        }
        Due.hall(x, "room 1;room 1;room 1;slow 1 b=7;slow 2 b=7;slow 3 b=7;slow 4 b=7;slow 5 b=7;slow 6 b=7;slow 7 b=7");
        due.is("TAKES by ten clauses", x.of(0, 9), 29);
        Due.hall(x, "room 5" + ";room 1".repeat(8) + ";room 2");
        due.is("room(2) by the tenth clause", x.room(2), 1);
        due.is("room(4) by the tenth clause", x.room(4), 2);
    }

    /** "without one there are no CLAUSES". */
    private static void noClauses() {
        CaseElsewhere x = new CaseElsewhere();
        x.bag(0, 0, 3, 5, 0);
        for (int i = 0; i < 4; i++) {
            x.bag(0, 0, 7, 7, 0);
        }
        due.is("SEEN without a HALL", x.of(0, 8), 7);
        due.is("TAKES without a HALL", x.of(0, 9), 1);
        due.is("room(3) without a HALL", x.room(3), 0);
        due.is("room(4) without a HALL", x.room(4), 1);
        x.image();
        Due.hall(x, "read 2 b<9;slow 2 b<9;room 1");
        due.is("SEEN in a HALL", x.of(0, 8), 9);
        due.is("TAKES in a HALL", x.of(0, 9), 3);
        due.is("room(4) in a HALL", x.room(4), 3);
        x.undo();
        due.is("SEEN without a HALL again", x.of(0, 8), 7);
        due.is("TAKES without a HALL again", x.of(0, 9), 1);
        due.is("room(4) without a HALL again", x.room(4), 1);
    }

    /** "one blank ahead of each part behind the word". */
    private static void blanks() {
        for (String word : new String[] {"read", "blur", "slow"}) {
            due.is(word + " 1 b=1", Due.hall(new CaseElsewhere(), word + " 1 b=1"), 0);
            fault(word + "1 b=1", 4);
            fault(word + "  1 b=1", 5);
            fault(word + " 1b=1", 6);
            fault(word + " 1  b=1", 7);
            fault(word + " 12  b=1", 8);
            fault(word + " 1 b =1", 8);
            fault(word + " 1 b= 1", 9);
            fault(word + " 1 b=1 ", 10);
            fault(word + " 1 b=1 &b=1", 10);
            fault(word + " 1 b=1& b=1", 11);
            fault(word + " 1 ! b=1", 8);
            fault(word + " 1 ( b=1)", 8);
            fault(word + " 1 (b=1 )", 11);
            fault(word + " 1 b=1; room 1", 11);
            fault(word + "\t1 b=1", 4);
            fault(" " + word + " 1 b=1", 0);
        }
        fault("room1", 4);
        fault("room  1", 5);
        fault("room 1 ", 6);
        fault("room 1 ;room 1", 6);
    }

    /** "n 1 or 2 digits". */
    private static void clauseNumbers() {
        due.is("SEEN by read 0", seen("read 0 b=3"), 7);
        due.is("SEEN by read 00", seen("read 00 b=3"), 7);
        due.is("SEEN by read 02", seen("read 02 b=3"), 9);
        due.is("SEEN by blur 7", seen("blur 7 b=3"), 0);
        due.is("SEEN by read 99 and blur 97", seen("read 99 b=3;blur 97 b=3"), 9);
        CaseElsewhere x = new CaseElsewhere();
        x.bag(0, 0, 3, 5, 0);
        int[] numbers = {0, 9, 10, 99};
        for (int n : numbers) {
            Due.hall(x, "slow " + n + " b=3");
            due.is("TAKES by slow " + n, x.of(0, 9), 1 + n);
        }
        fault("read  b=3", 5);
        fault("read b=3", 5);
        fault("read 100 b=3", 7);
        fault("read 001 b=3", 7);
        fault("read -1 b=3", 5);
        fault("read +1 b=3", 5);
        fault("read 1/ b=3", 6);
        fault("read 1: b=3", 6);
        fault("read / b=3", 5);
        fault("read : b=3", 5);
        fault("room 100", 7);
        fault("room ;", 5);
        fault("room -1", 5);
        fault("room a", 5);
    }

    /** "a number (1 or 2 digits)". */
    private static void testNumbers() {
        due.is("SEEN by b=3", seen("read 1 b=3"), 8);
        due.is("SEEN by b=03", seen("read 1 b=03"), 8);
        due.is("SEEN by b=30", seen("read 1 b=30"), 7);
        due.is("SEEN by b=13", seen("read 1 b=13"), 7);
        due.is("SEEN by b<99", seen("read 1 b<99"), 8);
        due.is("SEEN by b>99", seen("read 1 b>99"), 7);
        due.is("SEEN by b>0", seen("read 1 b>0"), 8);
        due.is("SEEN by b>00", seen("read 1 b>00"), 8);
        due.is("SEEN by b<0", seen("read 1 b<0"), 7);
        fault("read 1 b=003", 11);
        fault("read 1 b=999", 11);
        fault("read 1 b=", 9);
        fault("read 1 b=&", 9);
        fault("read 1 b=d", 9);
        fault("read 1 b=-3", 9);
        fault("read 1 b=/", 9);
        fault("read 1 b=:", 9);
        fault("read 1 b=3/", 10);
        fault("read 1 b=3:", 10);
    }

    /** "a letter, < or = or >". */
    private static void testSigns() {
        String letters = "bdktgc";
        for (int sign = 0; sign < 128; sign++) {
            String text = "read 1 " + (char) sign;
            boolean isLetter = letters.indexOf(sign) >= 0;
            fault(text, isLetter || sign == '!' || sign == '(' ? 8 : 7);
            String test = "read 1 b" + (char) sign;
            fault(test, sign == '<' || sign == '=' || sign == '>' ? 9 : 8);
        }
        String[] none = {"b<=3", "b=<3", "b>=3", "b<>3", "b==3", "b!=3", "b!3", "b;3"};
        int[] faults = {9, 9, 9, 9, 9, 8, 8, 8};
        for (int i = 0; i < none.length; i++) {
            fault("read 1 " + none[i], faults[i]);
        }
    }

    /** The signs ( and ! by the bits of a number, the first one by the lowest bit. */
    private static String signsBy(int bits, int n) {
        StringBuilder signs = new StringBuilder();
        for (int i = 0; i < n; i++) {
            signs.append((bits >> i & 1) == 1 ? '(' : '!');
        }
        return signs.toString();
    }

    private static String closing(String signs) {
        return signs.replace("!", "").replace('(', ')');
    }

    /** "A ( or ! within 4 others is none": but within three others it is one. */
    private static void fourWithin() {
        for (int n = 1; n <= 4; n++) {
            for (int bits = 0; bits < 1 << n; bits++) {
                String signs = signsBy(bits, n);
                boolean isTurned = signs.replace("(", "").length() % 2 == 1;
                String text = "read 1 " + signs + "b=3" + closing(signs);
                due.is("SEEN by " + text, seen(text), isTurned ? 7 : 8);
                text = "read 1 b=4|" + signs + "b=4" + closing(signs);
                due.is("SEEN by " + text, seen(text), isTurned ? 8 : 7);
            }
        }
    }

    /** "A ( or ! within 4 others is none". */
    private static void fiveWithin() {
        for (int bits = 0; bits < 1 << 5; bits++) {
            String signs = signsBy(bits, 5);
            fault("read 1 " + signs + "b=3" + closing(signs), 11);
            fault("read 1 " + signs, 11);
            fault("slow 12 b=3&" + signs + "b=3" + closing(signs), 16);
        }
        fault("read 1 ((((b=1|(b=2)))))", 15);
        fault("read 1 ((((b=1&!b=2))))", 15);
        fault("read 1 (((!(b=1))))", 11);
        fault("room 1;read 1 (b=1|(b=1|(b=1|(b=1|(", 34);
        fault("room 1;read 1 (b=1|(b=1|(b=1|(b=1|!", 34);
    }

    /** Those that are closed, or turn what is ahead, are not around what comes behind. */
    private static void besideNotWithin() {
        due.is("SEEN beside (", seen("read 1 (b=3)&(b=3)&(b=3)&(b=3)&(b=3)&(b=3)"), 8);
        due.is("SEEN beside !", seen("read 1 !b=4&!b=4&!b=4&!b=4&!b=4&!b=4"), 8);
        due.is("SEEN beside four (", seen("read 1 ((((b=3))))&((((b=3))))|((((b=4))))"), 8);
        due.is("SEEN beside four !", seen("read 1 !!!!b=3&!!!!b=3&!!!b=3"), 7);
        due.is("SEEN in the next clause", seen("read 1 ((((b=3))));read 1 !!!!b=3"), 9);
        due.is("SEEN within three, beside one", seen("read 1 (((b=4|(b=3)&(b=3)&!b=4)))"), 8);
        due.is("SEEN within three, ! beside !", seen("read 1 (!(b=4|!b=3&!b=4))"), 8);
    }

    /** "The FAULT: the place of the first byte with which none begins so": one no text can have at each place. */
    private static void faultAtEachPlace() {
        String[] texts = {"read 12 !b=1&(d<34|k>5);room 67", "slow 1 !!!!c=5|((((t>9))));blur 02 g=59", "room 3;room 04;read 9 b=7"};
        for (String text : texts) {
            for (int at = 0; at <= text.length(); at++) {
                fault(text.substring(0, at) + "~", at);
                fault(text.substring(0, at) + "~" + text.substring(at), at);
            }
        }
        fault("xxxx", 0);
        fault("Read 1 b=1", 0);
        fault("rxad 1 b=1", 1);
        fault("rerd 1 b=1", 2);
        fault("roam 1", 2);
        fault("blum", 3);
        fault("slod", 3);
        fault("reads 1 b=1", 4);
        fault("bead 1 b=1", 1);
        fault("slur 1 b=1", 2);
        fault("blow 1 b=1", 2);
        fault("road 1 b=1", 2);
    }

    /** "(the end of THE TEXT, if it ends too early)". */
    private static void tooEarly() {
        String text = "read 12 !b=1&(d<34|k>5);room 67";
        boolean[] isWhole = new boolean[text.length() + 1];
        // behind !b=1, behind the ), behind the 6 and behind the 7
        isWhole[12] = true;
        isWhole[23] = true;
        isWhole[30] = true;
        isWhole[31] = true;
        for (int n = 0; n <= text.length(); n++) {
            CaseElsewhere x = new CaseElsewhere();
            due.is("hall of " + text.substring(0, n), Due.hall(x, text.substring(0, n)), isWhole[n] ? 0 : -10 - n);
            due.is("count(2) of " + text.substring(0, n), x.count(2), isWhole[n] ? 1 : 0);
            due.is("count(4) of " + text.substring(0, n), x.count(4), 0);
        }
    }

    /** "-10 less the FAULT (the one that held holds)". */
    private static void faultLeavesHolding() {
        CaseElsewhere x = new CaseElsewhere();
        x.bag(0, 0, 3, 5, 0);
        due.is("a FAULT without a HALL", Due.hall(x, "read 2 b=3;"), -21);
        due.is("SEEN without a HALL", x.of(0, 8), 7);
        due.is("a HALL", Due.hall(x, "read 1 b=3"), 0);
        due.is("a FAULT", Due.hall(x, "blur 2 b=3|"), -21);
        due.is("SEEN: the one that held holds", x.of(0, 8), 8);
        due.is("count(2)", x.count(2), 1);
        due.is("no text", x.hall(), -10);
        due.is("SEEN: the one that held holds", x.of(0, 8), 8);
        due.is("the next HALL's number", Due.hall(x, "blur 2 b=3"), 1);
        due.is("SEEN in the next HALL", x.of(0, 8), 5);
    }

    /** "The newest HALL holds (6 at most)". */
    private static void sixHalls() {
        CaseElsewhere x = new CaseElsewhere();
        x.bag(0, 0, 3, 5, 0);
        for (int i = 0; i < 6; i++) {
            due.is("HALL " + i, Due.hall(x, "slow " + (i + 1) + " b=3"), i);
            due.is("count(2)", x.count(2), i + 1);
            due.is("TAKES in HALL " + i, x.of(0, 9), i + 2);
        }
    }

    /** "FULL: there are 6 (THE TEXT stays)". */
    private static void seventhHall() {
        CaseElsewhere x = new CaseElsewhere();
        x.bag(0, 0, 3, 5, 0);
        for (int i = 0; i < 6; i++) {
            Due.hall(x, "slow 1 b=3");
        }
        due.is("hall() of no text: FULL ahead of the FAULT", x.hall(), -4);
        due.is("hall() of a faulty text", Due.hall(x, "x"), -4);
        due.is("count(4)", x.count(4), 1);
        due.is("hall() again", x.hall(), -4);
        due.is("count(4)", x.count(4), 1);
        due.is("feed behind it", x.feed('y'), 2);
        due.is("TAKES: the sixth holds", x.of(0, 9), 2);
        due.is("count(2)", x.count(2), 6);
    }

    /** Nothing of an older HALL counts, in whatever it was told. */
    private static void newestHolds() {
        CaseElsewhere x = new CaseElsewhere();
        for (int i = 0; i < 4; i++) {
            x.bag(0, 0, 7, 7, 0);
        }
        Due.hall(x, "read 3 b=7;slow 9 b=7;room 1");
        due.is("SEEN", x.of(0, 8), 10);
        due.is("TAKES", x.of(0, 9), 10);
        due.is("room(3)", x.room(3), 3);
        Due.hall(x, "blur 1 b=7");
        due.is("SEEN in the newest", x.of(0, 8), 6);
        due.is("TAKES in the newest", x.of(0, 9), 1);
        due.is("room(3) in the newest", x.room(3), 1);
        Due.hall(x, "room 2");
        due.is("SEEN in the newest", x.of(0, 8), 7);
        due.is("room(3) in the newest", x.room(3), 1);
        due.is("room(2) in the newest", x.room(2), 1);
    }
}
