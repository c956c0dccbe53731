/** Runs of calls, made by a fixed rule, on the class and on the naive Model: both must answer alike. */
public final class ModelTest {
    private static final int RUNS = 300;
    private static final int MOST_TRIES = 2000;
    private static final Due due = new Due();
    private static long seed = 20261118;

    private final Both both;

    private ModelTest(int run) {
        both = new Both(due, "run " + run);
    }

    public static void main(String[] args) {
        for (int run = 0; run < RUNS; run++) {
            new ModelTest(run).run(run);
        }
        due.end();
    }

    private static int below(int n) {
        seed = seed * 6364136223846793005L + 1442695040888963407L;
        return (int) ((seed >>> 33) % n);
    }

    private static final int[] EDGES = {-1, -2, Integer.MIN_VALUE, Integer.MAX_VALUE, 8, 10, 100, 1000, 61, 7};

    /** Mostly 0 .. most, at times a bit outside or far outside. */
    private static int some(int most) {
        int what = below(40);
        if (what == 0) {
            return EDGES[below(EDGES.length)];
        }
        return what == 1 ? below(2) == 0 ? -1 : most + 1 : below(most + 1);
    }

    private void run(int number) {
        // most runs begin with belts, cases and owners, so that there is something to ask of
        if (number % 8 != 0) {
            begin();
        }
        for (int i = 0; i < MOST_TRIES && !both.isSpent(); i++) {
            step(below(40));
        }
    }

    private void begin() {
        for (int belt = 0; belt < 8; belt++) {
            both.leads(belt, 0, below(8));
            both.leads(belt, 1, below(8));
        }
        for (int i = below(7); i > 0; i--) {
            bag();
        }
        for (int i = below(7); i > 0; i--) {
            owner();
        }
        hall();
    }

    private static int marks() {
        int[] digits = {1, 2, 9, 0};
        return below(30) == 0 ? some(999) : digits[below(4)] * 100 + digits[below(4)] * 10 + digits[below(3)];
    }

    private void bag() {
        both.bag(some(6), some(9), some(7), some(7), marks());
    }

    private void owner() {
        both.owner(marks(), some(7));
    }

    private void hall() {
        String text = text();
        for (int i = 0; i < text.length(); i++) {
            both.feed(text.charAt(i));
        }
        both.hall();
    }

    private static String text() {
        StringBuilder text = new StringBuilder();
        int clauses = below(20) == 0 ? 12 : 1 + below(5);
        for (int i = 0; i < clauses; i++) {
            text.append(i == 0 ? "" : ";");
            int word = clauses == 12 ? 3 : below(5);
            text.append(new String[] {"read ", "blur ", "slow ", "room ", "slow "}[word]);
            text.append(word == 3 ? below(4) : word == 4 ? below(30) : below(6));
            if (word != 3) {
                text.append(' ');
                either(text, below(6) == 0 ? 5 : 3);
            }
        }
        int spoil = below(4);
        if (spoil == 0 && text.length() > 0) {
            String signs = "rblsedkgtc 0159;!()&|<=>xz";
            text.setCharAt(below(text.length()), signs.charAt(below(signs.length())));
        }
        if (spoil == 1 && below(2) == 0) {
            text.setLength(below(text.length() + 1));
        }
        return text.toString();
    }

    private static void either(StringBuilder text, int depth) {
        int parts = 1 + below(6) / 3 + below(8) / 7;
        for (int i = 0; i < parts; i++) {
            if (i > 0) {
                text.append(below(2) == 0 ? '&' : '|');
            }
            one(text, depth);
        }
    }

    private static void one(StringBuilder text, int depth) {
        int what = depth > 0 ? below(6) : 5;
        if (what == 0) {
            text.append('!');
            one(text, depth - 1);
        } else if (what == 1) {
            text.append('(');
            either(text, depth - 1);
            text.append(')');
        } else {
            int letter = below(6);
            text.append("bdktgc".charAt(letter)).append("<=>".charAt(below(3)));
            text.append(letter == 4 ? below(12) : below(8));
        }
    }

    private void step(int what) {
        if (what < 12) {
            change(what, some(6), some(5), some(7));
        } else if (what < 28) {
            ask(what, some(6), some(5), some(7));
        } else {
            tapes(what, some(6), some(5), some(7));
        }
    }

    private void change(int what, int a, int bag, int belt) {
        switch (what) {
            case 0: bag(); break;
            case 1: owner(); break;
            case 2: if (below(3) == 0) hall(); break;
            case 3: both.leads(belt, a % 3, some(7)); break;
            case 4: if (below(2) == 0) both.image(); break;
            case 5: if (below(3) == 0) both.undo(); break;
            case 6: both.set(bag, a % 4, belt); break;
            case 7: both.film(belt); break;
            case 8: if (below(9) == 0) both.feed(belt); break;
            case 9: film(bag); break;
            default: both.ride(bag, below(2) == 0); break;
        }
    }

    /** A FILM that goes as a CASE may go, as a rule. */
    private void film(int bag) {
        both.film(-1);
        int slip = (int) both.of(bag, 3);
        int belt = (int) both.of(bag, 2);
        for (int i = 0; i < 6 + below(8); i++) {
            both.film(belt);
            both.could(bag);
            if (belt != slip && below(12) != 0) {
                int what = below(2);
                int next = (int) both.leads(belt, what, 0);
                both.leads(belt, what, next);
                belt = next;
            }
        }
    }

    private void ask(int what, int a, int bag, int c) {
        switch (what) {
            case 12: both.near(a, c); break;
            case 13: both.of(bag, a * 2); break;
            case 14: both.of(bag, 8 + c % 3); break;
            case 15: both.by(bag, a, c & 1); break;
            case 16: both.by(bag, 6, c); break;
            case 17: both.where(bag, a, c, 0); break;
            case 18: both.where(bag, a, c, 1); break;
            case 19: both.soonest(bag, a & 1); break;
            case 20: both.ring(bag); break;
            case 21: both.steps(bag, a % 3); break;
            case 22: both.like(marks(), a); break;
            case 23: both.fit(a, bag); break;
            case 24: both.whose(a - 1); break;
            case 25: both.changed(a % 3); break;
            case 26: both.change(bag, some(30), c & 1); break;
            default: both.need(bag, a + c); break;
        }
    }

    private void tapes(int what, int a, int b, int c) {
        int n = some(9);
        long v = below(3) == 0 ? seed : c;
        switch (what) {
            case 28: both.room(a - 1); break;
            case 29: both.could(b); break;
            case 30: both.judge(b, c - 1); break;
            case 31: case 32: both.act(b, a % 4, (int) v); break;
            case 33: both.trace(n); break;
            case 34: both.taken(b, a); break;
            case 35: both.count(a); break;
            case 36: tape(b, a, n); break;
            case 37: both.item(b, n, v); break;
            case 38: both.read(b, n); break;
            default: shift(b, a, c, n); break;
        }
    }

    /** A TAPE of some sort, or of bytes that tell where CASES are. */
    private void tape(int tape, int sort, int n) {
        int of = below(3) == 0 ? sort - 1 : 0;
        both.tape(tape, of, n);
        for (int i = 0; of == 0 && i < 6; i++) {
            both.item(tape, i + 1, both.of(i, 2));
            both.judge(tape, 1);
        }
    }

    private void shift(int tape, int i, int j, int n) {
        int other = below(2) == 0 ? tape : some(5);
        both.shift(tape, i, other, j, n);
        for (int k = 0; k < 9; k++) {
            both.read(other, k);
        }
    }
}
