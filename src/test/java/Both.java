/** The class and the naive Model, called alike: each answer is compared, for as many calls as an object is used for. */
final class Both {
    private static final int MOST = 512;

    private final CaseElsewhere x = new CaseElsewhere();
    private final Model m = new Model();
    private final Due due;
    private final String name;
    private int calls = 0;

    Both(Due due, String name) {
        this.due = due;
        this.name = name;
    }

    /** Whether the object has been used up: calls are not made any more, and answer 0. */
    boolean isSpent() {
        return calls >= MOST;
    }

    private boolean isOpen() {
        if (isSpent()) {
            return false;
        }
        calls++;
        return true;
    }

    private long is(String call, long got, long want) {
        due.is(name + ", call " + calls + ": " + call, got, want);
        return got;
    }

    private static String of(String name, long... with) {
        StringBuilder text = new StringBuilder(name).append('(');
        for (int i = 0; i < with.length; i++) {
            text.append(i == 0 ? "" : ", ").append(with[i]);
        }
        return text.append(')').toString();
    }

    long leads(int a, int b, int c) {
        return isOpen() ? is(of("leads", a, b, c), x.leads(a, b, c), m.leads(a, b, c)) : 0;
    }

    long near(int a, int b) {
        return isOpen() ? is(of("near", a, b), x.near(a, b), m.near(a, b)) : 0;
    }

    long bag(int a, int b, int c, int d, int e) {
        return isOpen() ? is(of("bag", a, b, c, d, e), x.bag(a, b, c, d, e), m.bag(a, b, c, d, e)) : 0;
    }

    long of(int a, int b) {
        return isOpen() ? is(of("of", a, b), x.of(a, b), m.of(a, b)) : 0;
    }

    long set(int a, int b, int c) {
        return isOpen() ? is(of("set", a, b, c), x.set(a, b, c), m.set(a, b, c)) : 0;
    }

    long owner(int a, int b) {
        return isOpen() ? is(of("owner", a, b), x.owner(a, b), m.owner(a, b)) : 0;
    }

    long feed(int a) {
        return isOpen() ? is(of("feed", a), x.feed(a), m.feed(a)) : 0;
    }

    long hall() {
        return isOpen() ? is("hall()", x.hall(), m.hall()) : 0;
    }

    long ride(int a, boolean isRead) {
        return isOpen() ? is(of("ride", a) + isRead, x.ride(a, isRead), m.ride(a, isRead)) : 0;
    }

    long by(int a, int b, int c) {
        return isOpen() ? is(of("by", a, b, c), x.by(a, b, c), m.by(a, b, c)) : 0;
    }

    long where(int a, int b, int c, int d) {
        return isOpen() ? is(of("where", a, b, c, d), x.where(a, b, c, d), m.where(a, b, c, d)) : 0;
    }

    long soonest(int a, int b) {
        return isOpen() ? is(of("soonest", a, b), x.soonest(a, b), m.soonest(a, b)) : 0;
    }

    long ring(int a) {
        return isOpen() ? is(of("ring", a), x.ring(a), m.ring(a)) : 0;
    }

    long steps(int a, int b) {
        return isOpen() ? is(of("steps", a, b), x.steps(a, b), m.steps(a, b)) : 0;
    }

    long like(int a, int b) {
        return isOpen() ? is(of("like", a, b), x.like(a, b), m.like(a, b)) : 0;
    }

    long fit(int a, int b) {
        return isOpen() ? is(of("fit", a, b), x.fit(a, b), m.fit(a, b)) : 0;
    }

    long whose(int a) {
        return isOpen() ? is(of("whose", a), x.whose(a), m.whose(a)) : 0;
    }

    long changed(int a) {
        return isOpen() ? is(of("changed", a), x.changed(a), m.changed(a)) : 0;
    }

    long change(int a, int b, int c) {
        return isOpen() ? is(of("change", a, b, c), x.change(a, b, c), m.change(a, b, c)) : 0;
    }

    long need(int a, int b) {
        return isOpen() ? is(of("need", a, b), x.need(a, b), m.need(a, b)) : 0;
    }

    long room(int a) {
        return isOpen() ? is(of("room", a), x.room(a), m.room(a)) : 0;
    }

    long film(int a) {
        return isOpen() ? is(of("film", a), x.film(a), m.film(a)) : 0;
    }

    long could(int a) {
        return isOpen() ? is(of("could", a), x.could(a), m.could(a)) : 0;
    }

    long judge(int a, int b) {
        return isOpen() ? is(of("judge", a, b), x.judge(a, b), m.judge(a, b)) : 0;
    }

    long image() {
        return isOpen() ? is("image()", x.image(), m.image()) : 0;
    }

    long undo() {
        return isOpen() ? is("undo()", x.undo(), m.undo()) : 0;
    }

    long act(int a, int b, int c) {
        return isOpen() ? is(of("act", a, b, c), x.act(a, b, c), m.act(a, b, c)) : 0;
    }

    long trace(int a) {
        return isOpen() ? is(of("trace", a), x.trace(a), m.trace(a)) : 0;
    }

    long taken(int a, int b) {
        return isOpen() ? is(of("taken", a, b), x.taken(a, b), m.taken(a, b)) : 0;
    }

    long count(int a) {
        return isOpen() ? is(of("count", a), x.count(a), m.count(a)) : 0;
    }

    long tape(int a, int b, int c) {
        return isOpen() ? is(of("tape", a, b, c), x.tape(a, b, c), m.tape(a, b, c)) : 0;
    }

    long item(int a, int b, long v) {
        return isOpen() ? is(of("item", a, b, v), x.item(a, b, v), m.item(a, b, v)) : 0;
    }

    long read(int a, int b) {
        return isOpen() ? is(of("read", a, b), x.read(a, b), m.read(a, b)) : 0;
    }

    long shift(int a, int b, int c, int d, int e) {
        return isOpen() ? is(of("shift", a, b, c, d, e), x.shift(a, b, c, d, e), m.shift(a, b, c, d, e)) : 0;
    }
}
