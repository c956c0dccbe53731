/** Runs of calls, made by a fixed rule, on the class and on the naive Model: both must answer alike. */
public final class ModelTest {
    private static final int RUNS = 250;
    private static final int CALLS = 512;
    private static final Due due = new Due();
    private static long seed = 20261118;

    private CaseElsewhere x = new CaseElsewhere();
    private Model m = new Model();

    public static void main(String[] args) {
        for (int run = 0; run < RUNS; run++) {
            new ModelTest().run(run);
        }
        due.end();
    }

    private static int below(int n) {
        seed = seed * 6364136223846793005L + 1442695040888963407L;
        return (int) ((seed >>> 33) % n);
    }

    private static final int[] EDGES = {-1, -2, Integer.MIN_VALUE, Integer.MAX_VALUE, 8, 10, 100, 1000, 61, 7};

    /** Mostly 0 .. most, at times a bit outside or far outside. */
    private static int some(int most) {
        int what = below(40);
        if (what == 0) {
            return EDGES[below(EDGES.length)];
        }
        return what == 1 ? below(2) == 0 ? -1 : most + 1 : below(most + 1);
    }

    private void run(int number) {
        int made = 0;
        // most runs begin with belts, cases and owners, so that there is something to ask of
        if (number % 8 != 0) {
            made += begin();
        }
        while (made < CALLS) {
            made += step(number, below(40));
        }
    }

    private int begin() {
        int made = 0;
        for (int belt = 0; belt < 8; belt++) {
            int first = below(8);
            int second = below(8);
            due.is("leads", x.leads(belt, 0, first), m.leads(belt, 0, first));
            due.is("leads", x.leads(belt, 1, second), m.leads(belt, 1, second));
            made += 2;
        }
        for (int i = below(7); i > 0; i--) {
            made += bag();
        }
        for (int i = below(7); i > 0; i--) {
            made += owner();
        }
        return made + hall();
    }

    private static int marks() {
        int[] digits = {1, 2, 9, 0};
        return digits[below(4)] * 100 + digits[below(4)] * 10 + digits[below(3)];
    }

    private int bag() {
        int kind = some(6), v = some(9), belt = some(7), slip = some(7);
        int marks = below(30) == 0 ? some(999) : marks();
        String call = "bag(" + kind + ", " + v + ", " + belt + ", " + slip + ", " + marks + ")";
        due.is(call, x.bag(kind, v, belt, slip, marks), m.bag(kind, v, belt, slip, marks));
        return 1;
    }

    private int owner() {
        int marks = below(30) == 0 ? some(999) : marks();
        int belt = some(7);
        due.is("owner(" + marks + ", " + belt + ")", x.owner(marks, belt), m.owner(marks, belt));
        return 1;
    }

    private int hall() {
        String text = text();
        for (int i = 0; i < text.length(); i++) {
            due.is("feed", x.feed(text.charAt(i)), m.feed(text.charAt(i)));
        }
        due.is("hall of " + text, x.hall(), m.hall());
        return text.length() + 1;
    }

    private static String text() {
        StringBuilder text = new StringBuilder();
        int clauses = below(20) == 0 ? 12 : 1 + below(5);
        for (int i = 0; i < clauses; i++) {
            text.append(i == 0 ? "" : ";");
            int word = clauses == 12 ? 3 : below(5);
            text.append(new String[] {"read ", "blur ", "slow ", "room ", "slow "}[word]);
            text.append(word == 3 ? below(4) : word == 4 ? below(30) : below(6));
            if (word != 3) {
                text.append(' ');
                either(text, below(6) == 0 ? 5 : 3);
            }
        }
        int spoil = below(4);
        if (spoil == 0 && text.length() > 0) {
            String signs = "rblsedkgtc 0159;!()&|<=>xz";
            text.setCharAt(below(text.length()), signs.charAt(below(signs.length())));
        }
        if (spoil == 1 && below(2) == 0) {
            text.setLength(below(text.length() + 1));
        }
        return text.toString();
    }

    private static void either(StringBuilder text, int depth) {
        int parts = 1 + below(6) / 3 + below(8) / 7;
        for (int i = 0; i < parts; i++) {
            if (i > 0) {
                text.append(below(2) == 0 ? '&' : '|');
            }
            one(text, depth);
        }
    }

    private static void one(StringBuilder text, int depth) {
        int what = depth > 0 ? below(6) : 5;
        if (what == 0) {
            text.append('!');
            one(text, depth - 1);
        } else if (what == 1) {
            text.append('(');
            either(text, depth - 1);
            text.append(')');
        } else {
            int letter = below(6);
            text.append("bdktgc".charAt(letter)).append("<=>".charAt(below(3)));
            text.append(letter == 4 ? below(12) : below(8));
        }
    }

    private int step(int run, int what) {
        int a = some(6), b = some(5), c = some(7);
        String call = "run " + run + ", what " + what + " of " + a + ", " + b + ", " + c;
        if (what < 12) {
            return change(what, a, b, c);
        }
        long[] got = what < 28 ? asked(what, a, b, c) : tapes(what, a, b, c);
        due.is(call, got[0], got[1]);
        return 1;
    }

    private int change(int what, int a, int b, int c) {
        boolean isRead = below(2) == 0;
        switch (what) {
            case 0: return bag();
            case 1: return owner();
            case 2: return below(3) == 0 ? hall() : 1;
            case 3: due.is("leads", x.leads(c, a % 3, b), m.leads(c, a % 3, b)); return 1;
            case 4: due.is("image", below(2) == 0 ? x.image() - m.image() : 0, 0); return 1;
            case 5: due.is("undo", below(3) == 0 ? x.undo() - m.undo() : 0, 0); return 1;
            case 6: due.is("set", x.set(b, a % 4, c), m.set(b, a % 4, c)); return 1;
            case 7: due.is("film", x.film(c), m.film(c)); return 1;
            case 8: due.is("feed", below(9) == 0 ? x.feed(c) - m.feed(c) : 0, 0); return 1;
            case 9: return film(b);
            default: due.is("ride(" + b + ")", x.ride(b, isRead), m.ride(b, isRead)); return 1;
        }
    }

    /** A FILM that goes as a CASE may go, as a rule. */
    private int film(int bag) {
        due.is("film", x.film(-1), m.film(-1));
        int belt = x.of(bag, 2);
        for (int i = 0; i < 13; i++) {
            due.is("film", x.film(belt), m.film(belt));
            due.is("could(" + bag + ") behind " + i, x.could(bag), m.could(bag));
            int what = below(2);
            int next = belt < 0 ? 0 : x.leads(belt, what, 0);
            if (belt >= 0) {
                x.leads(belt, what, next);
            }
            belt = below(12) == 0 || x.of(bag, 3) == belt ? belt : next;
        }
        return 50;
    }

    private long[] asked(int what, int a, int b, int c) {
        switch (what) {
            case 12: return new long[] {x.near(a, c), m.near(a, c)};
            case 13: return new long[] {x.of(b, a * 2), m.of(b, a * 2)};
            case 14: return new long[] {x.of(b, 8 + c % 3), m.of(b, 8 + c % 3)};
            case 15: return new long[] {x.by(b, a, c & 1), m.by(b, a, c & 1)};
            case 16: return new long[] {x.by(b, 6, c), m.by(b, 6, c)};
            case 17: return new long[] {x.where(b, a, c, 0), m.where(b, a, c, 0)};
            case 18: return new long[] {x.where(b, a, c, 1), m.where(b, a, c, 1)};
            case 19: return new long[] {x.soonest(b, a & 1), m.soonest(b, a & 1)};
            case 20: return new long[] {x.ring(b), m.ring(b)};
            case 21: return new long[] {x.steps(b, a % 3), m.steps(b, a % 3)};
            case 22: return like(a);
            case 23: return new long[] {x.fit(a, b), m.fit(a, b)};
            case 24: return new long[] {x.whose(a - 1), m.whose(a - 1)};
            case 25: return new long[] {x.changed(a % 3), m.changed(a % 3)};
            case 26: return minutes(b, c);
            default: return new long[] {x.need(b, a + c), m.need(b, a + c)};
        }
    }

    private long[] like(int slips) {
        int marks = marks();
        return new long[] {x.like(marks, slips), m.like(marks, slips)};
    }

    private long[] minutes(int bag, int part) {
        int n = some(30);
        return new long[] {x.change(bag, n, part & 1), m.change(bag, n, part & 1)};
    }

    private long[] tapes(int what, int a, int b, int c) {
        int n = some(9);
        long v = below(3) == 0 ? seed : c;
        switch (what) {
            case 28: return new long[] {x.room(a - 1), m.room(a - 1)};
            case 29: return new long[] {x.could(b), m.could(b)};
            case 30: return new long[] {x.judge(b, c - 1), m.judge(b, c - 1)};
            case 31: case 32: return new long[] {x.act(b, a % 4, (int) v), m.act(b, a % 4, (int) v)};
            case 33: return new long[] {x.trace(n), m.trace(n)};
            case 34: return new long[] {x.taken(b, a), m.taken(b, a)};
            case 35: return new long[] {x.count(a), m.count(a)};
            case 36: return tape(b, a, n);
            case 37: return new long[] {x.item(b, n, v), m.item(b, n, v)};
            case 38: return new long[] {x.read(b, n), m.read(b, n)};
            default: return shift(b, a, c, n);
        }
    }

    /** A TAPE of some sort, or of bytes that tell where CASES are. */
    private long[] tape(int tape, int sort, int n) {
        int of = below(3) == 0 ? sort - 1 : 0;
        long[] answers = {x.tape(tape, of, n), m.tape(tape, of, n)};
        for (int i = 0; of == 0 && i < 6; i++) {
            int belt = x.of(i, 2);
            due.is("item", x.item(tape, i + 1, belt), m.item(tape, i + 1, belt));
            due.is("judge", x.judge(tape, 1), m.judge(tape, 1));
        }
        return answers;
    }

    private long[] shift(int tape, int i, int j, int n) {
        int other = below(2) == 0 ? tape : some(5);
        long[] answers = {x.shift(tape, i, other, j, n), m.shift(tape, i, other, j, n)};
        for (int k = 0; k < 9; k++) {
            due.is("read", x.read(other, k), m.read(other, k));
        }
        return answers;
    }
}
