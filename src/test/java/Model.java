import java.math.BigInteger;
import java.util.ArrayList;
import java.util.Arrays;
import java.util.HashMap;
import java.util.List;
import java.util.Map;
import java.util.regex.Matcher;
import java.util.regex.Pattern;

/** The document done over in the most naive way, to be compared with the class: slow, and by other means. */
final class Model {
    static final long NO = Long.MIN_VALUE;
    private static final int[] ABOVE = {-1, 0, 0, 0, 1, 2, 3};
    private static final Pattern HALL = Pattern.compile(hallPattern());

    static final class Bag {
        int kind, v, belt, slip, torn, marks, steps, minutes;

        Bag copy() {
            Bag b = new Bag();
            b.kind = kind; b.v = v; b.belt = belt; b.slip = slip;
            b.torn = torn; b.marks = marks; b.steps = steps; b.minutes = minutes;
            return b;
        }
    }

    static final class State {
        int[][] leads = new int[2][8];
        List<Bag> bags = new ArrayList<>();
        List<int[]> owners = new ArrayList<>();
        List<Integer> film = new ArrayList<>();
        String hall = "";

        State copy() {
            State s = new State();
            s.leads[0] = leads[0].clone();
            s.leads[1] = leads[1].clone();
            for (Bag b : bags) {
                s.bags.add(b.copy());
            }
            s.owners.addAll(owners);
            s.film.addAll(film);
            s.hall = hall;
            return s;
        }
    }

    private State s = new State();
    private State picture = null;
    private final StringBuilder text = new StringBuilder();
    private int halls = 0;
    private final List<Integer> trace = new ArrayList<>();
    private final int[] sorts = {-1, -1, -1, -1, -1, -1};
    private final long[][] rows = new long[6][0];

    Model() {
        for (int b = 0; b < 8; b++) {
            s.leads[0][b] = b == 7 ? 0 : b + 1;
            s.leads[1][b] = s.leads[0][b];
        }
    }

    private static boolean in(int n, int from, int to) {
        return n >= from && n <= to;
    }

    private boolean isBag(int bag) {
        return in(bag, 0, s.bags.size() - 1);
    }

    long leads(int belt, int what, int other) {
        if (!in(belt, 0, 7) || !in(what, 0, 1) || !in(other, 0, 7)) return -1;
        int was = s.leads[what][belt];
        s.leads[what][belt] = other;
        return was;
    }

    /** Breadth first by sets of BELTS; -5: by none. */
    private int far(int from, int to) {
        int now = 1 << from;
        for (int n = 0; n < 9; n++) {
            if ((now >> to & 1) == 1) return n;
            int next = 0;
            for (int b = 0; b < 8; b++) {
                if ((now >> b & 1) == 1) next |= 1 << s.leads[0][b] | 1 << s.leads[1][b];
            }
            now = next;
        }
        return -5;
    }

    long near(int belt, int other) {
        return in(belt, 0, 7) && in(other, 0, 7) ? far(belt, other) : -1;
    }

    long bag(int kind, int v, int belt, int slip, int marks) {
        if (!in(kind, 0, 6) || !in(belt, 0, 7) || !in(slip, 0, 7)) return -1;
        if (!in(v, 0, 9) || !in(marks, 0, 999)) return -2;
        if (s.bags.size() == 6) return -4;
        Bag b = new Bag();
        b.kind = kind; b.v = v; b.belt = belt; b.slip = slip; b.marks = marks;
        s.bags.add(b);
        return s.bags.size() - 1;
    }

    long of(int bag, int what) {
        if (!isBag(bag) || !in(what, 0, 10)) return -1;
        Bag b = s.bags.get(bag);
        int[] all = {b.kind, b.v, b.belt, b.slip, b.torn, b.marks, b.steps, b.minutes,
            seen(bag, b.belt, b.steps), takes(bag, b.belt, b.steps), b.belt == b.slip ? 1 : 0};
        return all[what];
    }

    long set(int bag, int what, int n) {
        if (!isBag(bag) || !in(what, 0, 2)) return -1;
        if (what != 1 && !in(n, 0, 7)) return -1;
        if (what == 1 && !in(n, 0, 9)) return -2;
        Bag b = s.bags.get(bag);
        int was = what == 0 ? b.slip : what == 1 ? b.torn : b.belt;
        if (what == 0) b.slip = n;
        if (what == 1) b.torn = n;
        if (what == 2) b.belt = n;
        return was;
    }

    long owner(int marks, int belt) {
        if (!in(belt, 0, 7)) return -1;
        if (!in(marks, 0, 999)) return -2;
        if (s.owners.size() == 6) return -4;
        s.owners.add(new int[] {marks, belt});
        return s.owners.size() - 1;
    }

    long feed(int sign) {
        if (!in(sign, 0, 127)) return -2;
        if (text.length() == 100) return -4;
        text.append((char) sign);
        return text.length();
    }

    // ---- halls by regular expression

    private static String hallPattern() {
        String e = "[bdktgc][<=>][0-9][0-9]?";
        String test = e;
        String either = "";
        for (int depth = 4; depth >= 0; depth--) {
            String one = depth == 4 ? test : "(?:" + test + "|!" + e + "|\\(" + either + "\\))";
            e = one;
            either = one + "(?:[&|]" + one + ")*";
        }
        String clause = "(?:(?:read|blur|slow) [0-9][0-9]? " + either + "|room [0-9][0-9]?)";
        return clause + "(?:;" + clause + "){0,9}";
    }

    /** The FAULT: the length of the longest beginning that can be gone on with, or -1. */
    static int fault(String text) {
        if (HALL.matcher(text).matches()) return -1;
        for (int n = 0; n < text.length(); n++) {
            Matcher m = HALL.matcher(text.substring(0, n + 1));
            if (!m.matches() && !m.hitEnd()) return n;
        }
        return text.length();
    }

    long hall() {
        if (halls == 6) return -4;
        String told = text.toString();
        text.setLength(0);
        int fault = fault(told);
        if (fault >= 0) return -10 - fault;
        s.hall = told;
        return halls++;
    }

    private boolean holds(String e, int bag, int belt, int steps) {
        int depth = 0;
        for (char join : new char[] {'|', '&'}) {
            for (int i = 0; i < e.length(); i++) {
                depth += e.charAt(i) == '(' ? 1 : e.charAt(i) == ')' ? -1 : 0;
                if (depth == 0 && e.charAt(i) == join) {
                    boolean left = holds(e.substring(0, i), bag, belt, steps);
                    boolean right = holds(e.substring(i + 1), bag, belt, steps);
                    return join == '|' ? left || right : left && right;
                }
            }
        }
        if (e.charAt(0) == '!') return !holds(e.substring(1), bag, belt, steps);
        if (e.charAt(0) == '(') return holds(e.substring(1, e.length() - 1), bag, belt, steps);
        Bag b = s.bags.get(bag);
        Map<Character, Integer> values = Map.of('b', belt, 'd', b.slip, 'k', b.kind, 't', b.torn, 'g', steps % 60, 'c', bag);
        int value = values.get(e.charAt(0));
        int n = Integer.parseInt(e.substring(2));
        return e.charAt(1) == '<' ? value < n : e.charAt(1) == '=' ? value == n : value > n;
    }

    private int sum(String word, int bag, int belt, int steps) {
        int sum = 0;
        for (String clause : s.hall.isEmpty() ? new String[0] : s.hall.split(";")) {
            String[] parts = clause.split(" ");
            if (parts[0].equals(word) && holds(parts[2], bag, belt, steps)) sum += Integer.parseInt(parts[1]);
        }
        return sum;
    }

    private int seen(int bag, int belt, int steps) {
        Bag b = s.bags.get(bag);
        int all = 7 + sum("read", bag, belt, steps) - sum("blur", bag, belt, steps);
        if (b.kind == 1) all += 1;
        if (b.kind == 2) all = b.v;
        if (b.kind == 3) all -= b.torn;
        if (b.kind == 4) all += 1 + b.v;
        if (b.kind == 5) all = belt == b.v ? 0 : b.v;
        if (b.kind == 6) all = (all - b.torn) / 2;
        return all < 0 ? 0 : all > 10 ? 10 : all;
    }

    private int takes(int bag, int belt, int steps) {
        return 1 + sum("slow", bag, belt, steps);
    }

    // ---- riding, by all ways gone one by one

    private int to(int belt, int slip, boolean isRead) {
        int first = s.leads[0][belt];
        int second = s.leads[1][belt];
        if (!isRead) return first;
        int a = far(first, slip);
        int b = far(second, slip);
        if (b == -5) return first;
        if (a == -5) return second;
        return b < a ? second : first;
    }

    long ride(int bag, boolean isRead) {
        if (!isBag(bag)) return -1;
        Bag b = s.bags.get(bag);
        if (b.belt == b.slip || b.steps >= 9999) return -3;
        b.minutes += takes(bag, b.belt, b.steps);
        b.belt = to(b.belt, b.slip, isRead);
        b.steps++;
        return b.belt;
    }

    private BigInteger[] share(int bag, int belt, int gone, int n, int wanted) {
        Bag b = s.bags.get(bag);
        if (n == 0 || belt == b.slip) return fraction(belt == wanted ? 1 : 0, 1);
        int seen = seen(bag, belt, b.steps + gone);
        BigInteger[] ifRead = share(bag, to(belt, b.slip, true), gone + 1, n - 1, wanted);
        BigInteger[] ifNot = share(bag, to(belt, b.slip, false), gone + 1, n - 1, wanted);
        return plus(times(fraction(seen, 10), ifRead), times(fraction(10 - seen, 10), ifNot));
    }

    private static BigInteger[] fraction(long above, long below) {
        return new BigInteger[] {BigInteger.valueOf(above), BigInteger.valueOf(below)};
    }

    private static BigInteger[] times(BigInteger[] a, BigInteger[] b) {
        return lowest(a[0].multiply(b[0]), a[1].multiply(b[1]));
    }

    private static BigInteger[] plus(BigInteger[] a, BigInteger[] b) {
        return lowest(a[0].multiply(b[1]).add(b[0].multiply(a[1])), a[1].multiply(b[1]));
    }

    private static BigInteger[] lowest(BigInteger above, BigInteger below) {
        BigInteger d = above.gcd(below);
        return new BigInteger[] {above.divide(d), below.divide(d)};
    }

    long by(int bag, int n, int part) {
        if (!isBag(bag) || !in(n, 0, 6) || !in(part, 0, 1)) return NO;
        Bag b = s.bags.get(bag);
        return share(bag, b.belt, 0, n, b.slip)[part].longValueExact();
    }

    long where(int bag, int n, int belt, int part) {
        if (!isBag(bag) || !in(n, 0, 6) || !in(belt, 0, 7) || !in(part, 0, 1)) return NO;
        return share(bag, s.bags.get(bag).belt, 0, n, belt)[part].longValueExact();
    }

    /** The fewest MINUTES from a BELT with so many STEPS gone and left; -5: by none. */
    private int fewest(int bag, int belt, int gone, Map<Integer, Integer> known) {
        Bag b = s.bags.get(bag);
        if (belt == b.slip) return 0;
        if (gone == 40) return -5;
        Integer was = known.get(gone * 8 + belt);
        if (was != null) return was;
        int a = fewest(bag, to(belt, b.slip, true), gone + 1, known);
        int c = fewest(bag, to(belt, b.slip, false), gone + 1, known);
        int least = a == -5 ? c : c == -5 ? a : Math.min(a, c);
        int all = least == -5 ? -5 : least + takes(bag, belt, b.steps + gone);
        known.put(gone * 8 + belt, all);
        return all;
    }

    long soonest(int bag, int what) {
        if (!isBag(bag) || !in(what, 0, 1)) return -1;
        Bag b = s.bags.get(bag);
        Map<Integer, Integer> known = new HashMap<>();
        int all = fewest(bag, b.belt, 0, known);
        if (what == 0) return all;
        if (all == -5 || b.belt == b.slip) return -5;
        int ifNot = fewest(bag, to(b.belt, b.slip, false), 1, known);
        return ifNot != -5 && ifNot + takes(bag, b.belt, b.steps) == all ? 0 : 1;
    }

    private int come(int belt, int slip, int had) {
        if ((had >> belt & 1) == 1) return had;
        int all = had | 1 << belt;
        if (belt == slip) return all;
        all = come(to(belt, slip, true), slip, all);
        return come(to(belt, slip, false), slip, all);
    }

    long ring(int bag) {
        if (!isBag(bag)) return -1;
        Bag b = s.bags.get(bag);
        int bits = 0;
        for (int belt = 0; belt < 8; belt++) {
            boolean isOn = (come(b.belt, b.slip, 0) >> belt & 1) == 1;
            if (isOn && (come(belt, b.slip, 0) >> b.slip & 1) == 0) bits |= 1 << belt;
        }
        return bits;
    }

    long steps(int bag, int what) {
        if (!isBag(bag) || !in(what, 0, 1)) return -1;
        Bag b = s.bags.get(bag);
        int belt = b.belt;
        int n = 0;
        while (belt != b.slip && n < 41) {
            belt = to(belt, b.slip, what == 0);
            n++;
        }
        return n > 40 ? -5 : n;
    }

    // ---- whose they are

    private static int alike(int a, int b) {
        String one = String.format("%03d", a);
        String other = String.format("%03d", b);
        int n = 0;
        for (int i = 0; i < 3; i++) {
            if (one.charAt(i) == other.charAt(i)) n++;
        }
        return n;
    }

    long like(int marks, int slips) {
        if (!in(marks, 0, 999) || !in(slips, 0, 3)) return -2;
        int bits = 0;
        for (int i = 0; i < s.bags.size(); i++) {
            if (3 - alike(marks, s.bags.get(i).marks) <= slips) bits |= 1 << i;
        }
        return bits;
    }

    long fit(int owner, int bag) {
        if (!isBag(bag) || !in(owner, 0, s.owners.size() - 1)) return -1;
        int[] o = s.owners.get(owner);
        return alike(o[0], s.bags.get(bag).marks) + (s.bags.get(bag).belt == o[1] ? 1 : 0);
    }

    /** Goes through all rows in their order; the first of the most is kept. */
    private void rowsOf(int[] row, int at, int sum, int[] best) {
        if (at == row.length) {
            if (sum > best[6]) {
                Arrays.fill(best, -5);
                System.arraycopy(row, 0, best, 0, row.length);
                best[6] = sum;
            }
            return;
        }
        for (int bag = 0; bag < s.bags.size(); bag++) {
            boolean isFree = true;
            for (int i = 0; i < at; i++) {
                isFree &= row[i] != bag;
            }
            if (isFree) {
                row[at] = bag;
                rowsOf(row, at + 1, sum + (int) fit(at, bag), best);
            }
        }
        row[at] = -5;
        rowsOf(row, at + 1, sum, best);
    }

    long whose(int owner) {
        if (!in(owner, -1, s.owners.size() - 1)) return -10001;
        int[] best = {-5, -5, -5, -5, -5, -5, -1};
        rowsOf(new int[s.owners.size()], 0, 0, best);
        return owner == -1 ? best[6] : best[owner];
    }

    private Bag leastOn(int belt) {
        for (Bag b : s.bags) {
            if (b.belt == belt) return b;
        }
        return null;
    }

    long changed(int what) {
        if (!in(what, 0, 1)) return -1;
        int n = 0;
        int first = -5;
        for (int a = 0; a < s.owners.size(); a++) {
            for (int b = a + 1; b < s.owners.size(); b++) {
                Bag x = leastOn(s.owners.get(a)[1]);
                Bag y = leastOn(s.owners.get(b)[1]);
                if (x == null || y == null) continue;
                int one = s.owners.get(a)[0];
                int other = s.owners.get(b)[0];
                if (alike(one, y.marks) > alike(one, x.marks) && alike(other, x.marks) > alike(other, y.marks)) {
                    n++;
                    if (first == -5) first = 10 * a + b;
                }
            }
        }
        return what == 0 ? n : first;
    }

    // ---- changes, room

    private BigInteger[] within(int bag, int belt, int gone, int minutes) {
        Bag b = s.bags.get(bag);
        if (belt == b.slip) return fraction(minutes >= 0 ? 1 : 0, 1);
        if (gone == 6) return fraction(0, 1);
        BigInteger[] all = fraction(0, 1);
        int left = minutes - takes(bag, belt, b.steps + gone);
        for (int more = 0; more < 3; more++) {
            BigInteger[] then = within(bag, to(belt, b.slip, true), gone + 1, left - more);
            all = plus(all, times(fraction(1, 3), then));
        }
        return all;
    }

    long change(int bag, int n, int part) {
        if (!isBag(bag) || !in(n, 0, 99) || !in(part, 0, 1)) return NO;
        return within(bag, s.bags.get(bag).belt, 0, n)[part].longValueExact();
    }

    long need(int bag, int p) {
        if (!isBag(bag)) return -1;
        if (!in(p, 1, 10)) return -2;
        for (int n = 0; n < 100; n++) {
            BigInteger[] w = within(bag, s.bags.get(bag).belt, 0, n);
            if (w[0].multiply(BigInteger.TEN).compareTo(w[1].multiply(BigInteger.valueOf(p))) >= 0) return n;
        }
        return -5;
    }

    long room(int bag) {
        if (!in(bag, -1, s.bags.size() - 1)) return -10001;
        int room = 3;
        for (String clause : s.hall.split(";")) {
            if (clause.startsWith("room")) room = Integer.parseInt(clause.substring(5));
        }
        List<Integer> row = new ArrayList<>();
        for (int i = 0; i < s.bags.size() && room > 0; i++) {
            if (s.bags.get(i).belt == s.bags.get(i).slip) row.add(i);
        }
        row.sort((a, b) -> s.bags.get(a).torn != s.bags.get(b).torn ? s.bags.get(b).torn - s.bags.get(a).torn : a - b);
        if (bag == -1) return row.size();
        return row.contains(bag) ? row.indexOf(bag) / room : -5;
    }

    // ---- films, judging, the image, acts, tapes

    long film(int belt) {
        if (belt == -1) s.film.clear();
        if (belt == -1) return 0;
        if (!in(belt, 0, 7)) return -1;
        if (s.film.size() == 12) return -4;
        s.film.add(belt);
        return s.film.size();
    }

    long could(int bag) {
        if (!isBag(bag)) return -1;
        Bag b = s.bags.get(bag);
        int may = 1 << b.belt;
        for (int i = 0; i < s.film.size(); i++) {
            int belt = s.film.get(i);
            if ((may >> belt & 1) == 0) return i;
            may = belt == b.slip ? 1 << belt : 1 << to(belt, b.slip, true) | 1 << to(belt, b.slip, false);
        }
        return -5;
    }

    long judge(int tape, int i) {
        if (!in(tape, 0, 5)) return -1;
        if (sorts[tape] > 0) return -12;
        for (int k = 0; k < s.bags.size(); k++) {
            long place = (long) i + k;
            if (place < 0 || place >= rows[tape].length) return 100 + k;
            if (rows[tape][(int) place] != s.bags.get(k).belt) return k;
        }
        return -5;
    }

    long image() {
        picture = s.copy();
        return s.bags.size();
    }

    long undo() {
        if (picture == null) return -3;
        s = picture.copy();
        return s.bags.size();
    }

    // the bodies as classes of Java
    private class Case {
        final int i, v;

        Case(int i, int v) {
            this.i = i;
            this.v = v;
        }

        int rides(int x) { trace.add(10); return x + i; }

        int waits(int x) { trace.add(11); return rides(x) - v; }

        int tells(int x) { trace.add(12); return waits(x) * 2; }
    }

    private class Read extends Case {
        Read(int i, int v) { super(i, v); }

        @Override int waits(int x) { trace.add(20); return super.waits(x) ^ 6; }
    }

    private class Handled extends Case {
        Handled(int i, int v) { super(i, v); }

        @Override int rides(int x) { trace.add(30); return super.rides(x * 3); }
    }

    private class Lost extends Case {
        Lost(int i, int v) { super(i, v); }

        @Override int tells(int x) { trace.add(40); return super.tells(x) + waits(1); }
    }

    private class Tagged extends Read {
        Tagged(int i, int v) { super(i, v); }

        @Override int rides(int x) { trace.add(50); return -super.rides(x); }

        @Override int waits(int x) { trace.add(51); return super.waits(x + 1); }
    }

    private class Taken extends Handled {
        Taken(int i, int v) { super(i, v); }

        @Override int tells(int x) { trace.add(60); return super.tells(x - i); }
    }

    private class Round extends Lost {
        Round(int i, int v) { super(i, v); }

        @Override int waits(int x) { trace.add(70); return super.waits(x) + super.rides(2); }

        @Override int rides(int x) { trace.add(71); return super.rides(x) ^ v; }
    }

    private Case acting(int bag) {
        int v = s.bags.get(bag).v;
        switch (s.bags.get(bag).kind) {
            case 1: return new Read(bag, v);
            case 2: return new Handled(bag, v);
            case 3: return new Lost(bag, v);
            case 4: return new Tagged(bag, v);
            case 5: return new Taken(bag, v);
            case 6: return new Round(bag, v);
            default: return new Case(bag, v);
        }
    }

    long act(int bag, int act, int x) {
        trace.clear();
        if (!isBag(bag) || !in(act, 0, 2)) return 0;
        Case c = acting(bag);
        return act == 0 ? c.rides(x) : act == 1 ? c.waits(x) : c.tells(x);
    }

    long trace(int i) {
        return in(i, 0, Math.min(20, trace.size()) - 1) ? trace.get(i) : -1;
    }

    long taken(int bag, int k) {
        if (!in(k, 0, 6)) return -2;
        if (!isBag(bag)) return -11;
        for (int at = s.bags.get(bag).kind; at >= 0; at = ABOVE[at]) {
            if (at == k) return s.bags.get(bag).kind;
        }
        return -12;
    }

    long count(int what) {
        if (!in(what, 0, 5)) return -2;
        int[] all = {s.bags.size(), s.owners.size(), halls, s.film.size(), text.length(), trace.size()};
        return all[what];
    }

    long tape(int tape, int sort, int n) {
        if (!in(tape, 0, 5)) return -1;
        if (!in(sort, -1, 4) || (sort >= 0 && n > 60)) return -2;
        if (sort >= 0 && n < 0) return -14;
        sorts[tape] = sort;
        rows[tape] = new long[sort < 0 ? 0 : n];
        return 1;
    }

    long item(int tape, int i, long v) {
        if (!in(tape, 0, 5)) return -1;
        if (sorts[tape] < 0) return -11;
        if (!in(i, 0, rows[tape].length - 1)) return -13;
        long[] cut = {(byte) v, (short) v, (int) v, v, v == 0 ? 0 : 1};
        rows[tape][i] = cut[sorts[tape]];
        return 1;
    }

    long read(int tape, int i) {
        return in(tape, 0, 5) && in(i, 0, rows[tape].length - 1) ? rows[tape][i] : NO;
    }

    long shift(int tape, int i, int other, int j, int n) {
        if (!in(tape, 0, 5) || !in(other, 0, 5)) return -1;
        if (sorts[tape] < 0 || sorts[other] < 0) return -11;
        if (sorts[tape] != sorts[other]) return -12;
        if (n < 0 || i < 0 || j < 0) return -13;
        if ((long) i + n > rows[tape].length || (long) j + n > rows[other].length) return -13;
        long[] before = rows[tape].clone();
        for (int k = 0; k < n; k++) {
            rows[other][j + k] = before[i + k];
        }
        return n;
    }
}
