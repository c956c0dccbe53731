import java.util.Arrays;

/** A case that went elsewhere. What each call answers and changes is told in ../shared/DOC.md. */
public final class CaseElsewhere {
    public static final int NONE = -1, BAD = -2, STATE = -3, FULL = -4;
    public static final long NO = Long.MIN_VALUE;

    private static final int BY_NONE = -5;
    private static final int NOTHING = -11, CAST = -12, PLACE = -13, SIZE = -14;
    private static final int NO_SUCH_NUMBER = -10001;

    private static final int BELTS = 8, CASES = 6, OWNERS = 6, HALLS = 6, ROWS = 12;
    private static final int MOST_V = 9, MOST_TORN = 9, MOST_MARKS = 999, MOST_SLIPS = 3;
    private static final int MOST_STEPS = 9999, MOST_ASKED_STEPS = 6, MOST_MINUTES = 99;
    private static final int JUDGED_SHORT = 100;

    private static final int KINDS = 7;
    private static final int KIND_READ = 1, KIND_HANDLED = 2, KIND_LOST = 3;
    private static final int KIND_TAGGED = 4, KIND_TAKEN = 5, KIND_ROUND = 6;
    /** The KIND above each KIND; there is none above the first. */
    private static final int[] ABOVE = {-1, 0, 0, 0, 1, 2, 3};

    private static final int WORD_READ = 0, WORD_BLUR = 1, WORD_SLOW = 2, WORD_ROOM = 3;

    private final World world = new World();
    private final World picture = new World();
    private final Text text = new Text();
    private final Halls halls = new Halls();
    private final Ways ways = new Ways(world, halls);
    private final Odds odds = new Odds(world, ways);
    private final Claims claims = new Claims(world);
    private final Acts acts = new Acts();
    private final Tapes tapes = new Tapes();
    private boolean hasImage = false;

    public CaseElsewhere() {
    }

    // ---- belts, cases, owners, halls

    public int leads(int belt, int what, int other) {
        if (!isBelt(belt) || what < 0 || what > 1 || !isBelt(other)) {
            return NONE;
        }
        int[] row = what == 0 ? world.first : world.second;
        int before = row[belt];
        row[belt] = other;
        return before;
    }

    public int near(int belt, int other) {
        if (!isBelt(belt) || !isBelt(other)) {
            return NONE;
        }
        ways.measure(other);
        return ways.farOrNone(belt);
    }

    public int bag(int kind, int v, int belt, int slip, int marks) {
        if (!isKind(kind) || !isBelt(belt) || !isBelt(slip)) {
            return NONE;
        }
        if (v < 0 || v > MOST_V || !isMarks(marks)) {
            return BAD;
        }
        if (world.bagCount >= CASES) {
            return FULL;
        }
        world.bags[world.bagCount].begin(kind, v, belt, slip, marks);
        world.bagCount++;
        return world.bagCount - 1;
    }

    public int of(int bag, int what) {
        Bag asked = bagAt(bag);
        if (asked == null) {
            return NONE;
        }
        switch (what) {
            case 0: return asked.kind;
            case 1: return asked.v;
            case 2: return asked.belt;
            case 3: return asked.slip;
            case 4: return asked.torn;
            case 5: return asked.marks;
            case 6: return asked.steps;
            case 7: return asked.minutes;
            case 8: return ways.seenOfTen(asked, asked.belt, asked.steps);
            case 9: return ways.takesOf(asked, asked.belt, asked.steps);
            case 10: return asked.isThere() ? 1 : 0;
            default: return NONE;
        }
    }

    public int set(int bag, int what, int n) {
        Bag touched = bagAt(bag);
        if (touched == null || what < 0 || what > 2 || (what != 1 && !isBelt(n))) {
            return NONE;
        }
        if (what == 1 && (n < 0 || n > MOST_TORN)) {
            return BAD;
        }
        int before;
        if (what == 0) {
            before = touched.slip;
            touched.slip = n;
        } else if (what == 1) {
            before = touched.torn;
            touched.torn = n;
        } else {
            before = touched.belt;
            touched.belt = n;
        }
        return before;
    }

    public int owner(int marks, int belt) {
        if (!isBelt(belt)) {
            return NONE;
        }
        if (!isMarks(marks)) {
            return BAD;
        }
        if (world.ownerCount >= OWNERS) {
            return FULL;
        }
        world.told[world.ownerCount] = marks;
        world.waits[world.ownerCount] = belt;
        world.ownerCount++;
        return world.ownerCount - 1;
    }

    public int feed(int sign) {
        if (sign < 0 || sign > 127) {
            return BAD;
        }
        if (text.isFull()) {
            return FULL;
        }
        text.put(sign);
        return text.length;
    }

    public int hall() {
        if (halls.count >= HALLS) {
            return FULL;
        }
        int fault = text.readInto(halls.rows[halls.count]);
        text.length = 0;
        if (fault >= 0) {
            return -10 - fault;
        }
        world.holding = halls.count;
        halls.count++;
        return world.holding;
    }

    // ---- riding

    public int ride(int bag, boolean isRead) {
        Bag ridden = bagAt(bag);
        if (ridden == null) {
            return NONE;
        }
        if (ridden.isThere() || ridden.steps >= MOST_STEPS) {
            return STATE;
        }
        return ways.goOn(ridden, isRead);
    }

    public long by(int bag, int n, int part) {
        Bag asked = bagAt(bag);
        if (asked == null || n < 0 || n > MOST_ASKED_STEPS || !isPart(part)) {
            return NO;
        }
        return odds.shareOn(asked, n, asked.slip, part);
    }

    public long where(int bag, int n, int belt, int part) {
        Bag asked = bagAt(bag);
        if (asked == null || n < 0 || n > MOST_ASKED_STEPS || !isBelt(belt) || !isPart(part)) {
            return NO;
        }
        return odds.shareOn(asked, n, belt, part);
    }

    public int soonest(int bag, int what) {
        Bag asked = bagAt(bag);
        if (asked == null || what < 0 || what > 1) {
            return NONE;
        }
        if (asked.isThere()) {
            return what == 0 ? 0 : BY_NONE;
        }
        int key = ways.soonestKey(asked);
        if (key == Ways.NO_KEY) {
            return BY_NONE;
        }
        return what == 0 ? key / 2 : key % 2;
    }

    public int ring(int bag) {
        Bag asked = bagAt(bag);
        return asked == null ? NONE : ways.ringBits(asked);
    }

    public int steps(int bag, int what) {
        Bag asked = bagAt(bag);
        if (asked == null || what < 0 || what > 1) {
            return NONE;
        }
        return ways.stepsTillThere(asked, what == 0);
    }

    // ---- whose they are

    public int like(int marks, int slips) {
        if (!isMarks(marks) || slips < 0 || slips > MOST_SLIPS) {
            return BAD;
        }
        return claims.likeBits(marks, slips);
    }

    public int fit(int owner, int bag) {
        Bag asked = bagAt(bag);
        if (asked == null || !isOwner(owner)) {
            return NONE;
        }
        return claims.fitOf(owner, asked);
    }

    public int whose(int owner) {
        if (owner != -1 && !isOwner(owner)) {
            return NO_SUCH_NUMBER;
        }
        claims.weigh();
        return owner == -1 ? claims.mostInAll() : claims.bagOf(owner);
    }

    public int changed(int what) {
        if (what == 0) {
            return claims.changedPairs();
        }
        return what == 1 ? claims.firstChangedPair() : NONE;
    }

    // ---- changes, room

    public long change(int bag, int n, int part) {
        Bag asked = bagAt(bag);
        if (asked == null || n < 0 || n > MOST_MINUTES || !isPart(part)) {
            return NO;
        }
        return odds.changeShare(asked, n, part);
    }

    public int need(int bag, int p) {
        Bag asked = bagAt(bag);
        if (asked == null) {
            return NONE;
        }
        if (p < 1 || p > 10) {
            return BAD;
        }
        return odds.leastMinutes(asked, p);
    }

    public int room(int bag) {
        Bag asked = bagAt(bag);
        if (bag != -1 && asked == null) {
            return NO_SUCH_NUMBER;
        }
        int each = halls.holding(world).roomOfEach();
        if (asked == null) {
            return each == 0 ? 0 : world.countThere();
        }
        if (each <= 0 || !asked.isThere()) {
            return BY_NONE;
        }
        return world.countAhead(asked) / each;
    }

    // ---- films, judging, the image, acts, tapes

    public int film(int belt) {
        if (belt == -1) {
            world.filmCount = 0;
            return 0;
        }
        if (!isBelt(belt)) {
            return NONE;
        }
        if (world.filmCount >= ROWS) {
            return FULL;
        }
        world.film[world.filmCount] = belt;
        world.filmCount++;
        return world.filmCount;
    }

    public int could(int bag) {
        Bag asked = bagAt(bag);
        return asked == null ? NONE : ways.firstWrongRow(asked);
    }

    public int judge(int tape, int i) {
        if (!tapes.isTape(tape)) {
            return NONE;
        }
        if (tapes.holds(tape) && tapes.sorts[tape] != Tapes.SORT_BYTES) {
            return CAST;
        }
        for (int k = 0; k < world.bagCount && k < CASES; k++) {
            long told = tapes.valueAt(tape, i + k);
            if (told == NO) {
                return JUDGED_SHORT + k;
            }
            if (told != world.bags[k].belt) {
                return k;
            }
        }
        return BY_NONE;
    }

    public int image() {
        picture.become(world);
        hasImage = true;
        return world.bagCount;
    }

    public int undo() {
        if (!hasImage) {
            return STATE;
        }
        world.become(picture);
        return world.bagCount;
    }

    public int act(int bag, int act, int x) {
        Bag acting = bagAt(bag);
        acts.ran = 0;
        if (acting == null || act < 0 || act >= Acts.SORTS) {
            return 0;
        }
        return acts.run(acting, act, x);
    }

    public int trace(int i) {
        return acts.isKept(i) ? acts.numbers[i] : NONE;
    }

    public int taken(int bag, int k) {
        if (!isKind(k)) {
            return BAD;
        }
        Bag asked = bagAt(bag);
        if (asked == null) {
            return NOTHING;
        }
        return isUnder(asked.kind, k) ? asked.kind : CAST;
    }

    public int count(int what) {
        switch (what) {
            case 0: return world.bagCount;
            case 1: return world.ownerCount;
            case 2: return halls.count;
            case 3: return world.filmCount;
            case 4: return text.length;
            case 5: return acts.ran;
            default: return BAD;
        }
    }

    public int tape(int tape, int sort, int n) {
        if (!tapes.isTape(tape)) {
            return NONE;
        }
        if (sort < Tapes.SORT_NONE || sort > Tapes.SORT_BOOLEANS) {
            return BAD;
        }
        if (sort == Tapes.SORT_NONE) {
            tapes.begin(tape, sort, 0);
            return 1;
        }
        if (n > Tapes.LONGEST) {
            return BAD;
        }
        if (n < 0) {
            return SIZE;
        }
        tapes.begin(tape, sort, n);
        return 1;
    }

    public int item(int tape, int i, long v) {
        if (!tapes.isTape(tape)) {
            return NONE;
        }
        if (!tapes.holds(tape)) {
            return NOTHING;
        }
        if (!tapes.hasPlace(tape, i)) {
            return PLACE;
        }
        tapes.put(tape, i, v);
        return 1;
    }

    public long read(int tape, int i) {
        return tapes.isTape(tape) ? tapes.valueAt(tape, i) : NO;
    }

    public int shift(int tape, int i, int other, int j, int n) {
        if (!tapes.isTape(tape) || !tapes.isTape(other)) {
            return NONE;
        }
        if (!tapes.holds(tape) || !tapes.holds(other)) {
            return NOTHING;
        }
        if (tapes.sorts[tape] != tapes.sorts[other]) {
            return CAST;
        }
        if (!tapes.hasPlaces(tape, i, n) || !tapes.hasPlaces(other, j, n)) {
            return PLACE;
        }
        tapes.move(tape, i, other, j, n);
        return n;
    }

    // ---- what numbers are there

    private Bag bagAt(int bag) {
        return bag >= 0 && bag < world.bagCount && bag < CASES ? world.bags[bag] : null;
    }

    private boolean isOwner(int owner) {
        return owner >= 0 && owner < world.ownerCount;
    }

    private static boolean isBelt(int belt) {
        return belt >= 0 && belt < BELTS;
    }

    private static boolean isKind(int kind) {
        return kind >= 0 && kind < KINDS;
    }

    private static boolean isMarks(int marks) {
        return marks >= 0 && marks <= MOST_MARKS;
    }

    private static boolean isPart(int part) {
        return part == 0 || part == 1;
    }

    private static boolean isUnder(int kind, int wanted) {
        int above = kind;
        for (int i = 0; i < KINDS && isKind(above); i++) {
            if (above == wanted) {
                return true;
            }
            above = ABOVE[above];
        }
        return false;
    }

    /** A CASE. */
    private static final class Bag {
        final int number;
        int kind;
        int v;
        int belt;
        int slip;
        int torn;
        int marks;
        int steps;
        int minutes;

        Bag(int number) {
            this.number = number;
        }

        void begin(int kind, int v, int belt, int slip, int marks) {
            this.kind = kind;
            this.v = v;
            this.belt = belt;
            this.slip = slip;
            this.marks = marks;
            torn = 0;
            steps = 0;
            minutes = 0;
        }

        void become(Bag other) {
            begin(other.kind, other.v, other.belt, other.slip, other.marks);
            torn = other.torn;
            steps = other.steps;
            minutes = other.minutes;
        }

        boolean isThere() {
            return belt == slip;
        }
    }

    /** All that THE IMAGE takes along: BELTS, CASES, OWNERS, the FILM, which HALL holds. */
    private static final class World {
        final int[] first = new int[BELTS];
        final int[] second = new int[BELTS];
        final Bag[] bags = new Bag[CASES];
        int bagCount = 0;
        final int[] told = new int[OWNERS];
        final int[] waits = new int[OWNERS];
        int ownerCount = 0;
        final int[] film = new int[ROWS];
        int filmCount = 0;
        /** The number of the HALL that holds, or -1. */
        int holding = -1;

        World() {
            for (int i = 0; i < BELTS; i++) {
                first[i] = (i + 1) % BELTS;
                second[i] = (i + 1) % BELTS;
            }
            for (int i = 0; i < CASES; i++) {
                bags[i] = new Bag(i);
            }
        }

        void become(World other) {
            System.arraycopy(other.first, 0, first, 0, BELTS);
            System.arraycopy(other.second, 0, second, 0, BELTS);
            for (int i = 0; i < CASES; i++) {
                bags[i].become(other.bags[i]);
            }
            bagCount = other.bagCount;
            System.arraycopy(other.told, 0, told, 0, OWNERS);
            System.arraycopy(other.waits, 0, waits, 0, OWNERS);
            ownerCount = other.ownerCount;
            System.arraycopy(other.film, 0, film, 0, ROWS);
            filmCount = other.filmCount;
            holding = other.holding;
        }

        int countThere() {
            int n = 0;
            for (int i = 0; i < bagCount; i++) {
                if (bags[i].isThere()) {
                    n++;
                }
            }
            return n;
        }

        /** How many CASES that are THERE go ahead of one. */
        int countAhead(Bag bag) {
            int n = 0;
            for (int i = 0; i < bagCount; i++) {
                Bag other = bags[i];
                boolean isFirst = other.torn > bag.torn
                    || (other.torn == bag.torn && other.number < bag.number);
                if (other.isThere() && isFirst) {
                    n++;
                }
            }
            return n;
        }

        /** The least CASE on a BELT, or null. */
        Bag leastOn(int belt) {
            for (int i = 0; i < bagCount; i++) {
                if (bags[i].belt == belt) {
                    return bags[i];
                }
            }
            return null;
        }
    }

    /** The CLAUSES of a HALL; their Es stand one behind the other, operators behind what they join. */
    private static final class Hall {
        static final int MOST_CLAUSES = 10;
        static final int CODES = 100;
        static final int NOT = -1, AND = -2, OR = -3;
        static final int ROOM_WITHOUT = 3;

        private int clauses = 0;
        private final int[] words = new int[MOST_CLAUSES];
        private final int[] numbers = new int[MOST_CLAUSES];
        /** Where the codes of each clause's E end; they begin where those ahead of it end. */
        private final int[] ends = new int[MOST_CLAUSES];
        private final int[] codes = new int[CODES];
        private int size = 0;

        void clear() {
            clauses = 0;
            size = 0;
        }

        void putCode(int code) {
            if (size < CODES) {
                codes[size] = code;
                size++;
            }
        }

        void putTest(int letter, int sign, int number) {
            putCode((letter * 3 + sign) * 100 + number);
        }

        void closeClause(int word, int number) {
            if (clauses < MOST_CLAUSES) {
                words[clauses] = word;
                numbers[clauses] = number;
                ends[clauses] = size;
                clauses++;
            }
        }

        int roomOfEach() {
            int n = ROOM_WITHOUT;
            for (int i = 0; i < clauses; i++) {
                if (words[i] == WORD_ROOM) {
                    n = numbers[i];
                }
            }
            return n;
        }

        /** The n of all clauses of a word whose E holds, together, for a CASE on a BELT with STEPS. */
        int total(int word, Bag bag, int belt, int steps) {
            int sum = 0;
            int from = 0;
            for (int i = 0; i < clauses; i++) {
                if (words[i] == word && isSo(from, ends[i], bag, belt, steps)) {
                    sum += numbers[i];
                }
                from = ends[i];
            }
            return sum;
        }

        /** A stack of truths is kept in the bits of one number: at most two for each ( open, and one. */
        private boolean isSo(int from, int to, Bag bag, int belt, int steps) {
            long stack = 0;
            for (int i = from; i < to && i < CODES; i++) {
                int code = codes[i];
                long top = stack & 1;
                if (code == NOT) {
                    stack ^= 1;
                } else if (code == AND) {
                    stack = (stack >> 1) & (top | -2L);
                } else if (code == OR) {
                    stack = (stack >> 1) | top;
                } else {
                    stack = (stack << 1) | (passes(code, bag, belt, steps) ? 1 : 0);
                }
            }
            return (stack & 1) == 1;
        }

        private static boolean passes(int code, Bag bag, int belt, int steps) {
            int value;
            switch (code / 300) {
                case 0: value = belt; break;
                case 1: value = bag.slip; break;
                case 2: value = bag.kind; break;
                case 3: value = bag.torn; break;
                case 4: value = steps % 60; break;
                default: value = bag.number; break;
            }
            int number = code % 100;
            switch (code / 100 % 3) {
                case 0: return value < number;
                case 1: return value == number;
                default: return value > number;
            }
        }
    }

    /** The HALLS that were read. */
    private static final class Halls {
        final Hall[] rows = new Hall[HALLS];
        int count = 0;
        private final Hall without = new Hall();

        Halls() {
            for (int i = 0; i < HALLS; i++) {
                rows[i] = new Hall();
            }
        }

        Hall holding(World world) {
            int i = world.holding;
            return i >= 0 && i < count && i < HALLS ? rows[i] : without;
        }
    }

    /** THE TEXT, and how it is read. A reading that fails leaves place at the FAULT. */
    private static final class Text {
        static final int MOST = 100;
        static final int DEEPEST = 4;
        /** Stands for the sign behind the last: like it, 0 is read nowhere. */
        static final int END = 0;
        static final String WORDS = "readblurslowroom";
        static final String LETTERS = "bdktgc";
        static final String SIGNS = "<=>";

        private final int[] bytes = new int[MOST];
        int length = 0;
        private int place = 0;

        boolean isFull() {
            return length >= MOST;
        }

        void put(int sign) {
            if (length < MOST) {
                bytes[length] = sign;
                length++;
            }
        }

        /** The FAULT, or -1 if there is none. */
        int readInto(Hall hall) {
            hall.clear();
            place = 0;
            boolean isGood = readClause(hall);
            for (int i = 1; i < Hall.MOST_CLAUSES && isGood && place < length; i++) {
                isGood = skip(';') && readClause(hall);
            }
            return isGood && place >= length ? -1 : place;
        }

        private boolean readClause(Hall hall) {
            int word = readWord();
            if (word < 0 || !skip(' ')) {
                return false;
            }
            int number = readNumber();
            if (number < 0) {
                return false;
            }
            if (word != WORD_ROOM && !(skip(' ') && readEither(hall, 0))) {
                return false;
            }
            hall.closeClause(word, number);
            return true;
        }

        /** The word that stands here, or -1: then the FAULT is where the likest word ends to be alike. */
        private int readWord() {
            int longest = 0;
            for (int word = 0; word < 4; word++) {
                int alike = alikeWith(word);
                if (alike == 4) {
                    place += 4;
                    return word;
                }
                longest = Math.max(longest, alike);
            }
            place += longest;
            return -1;
        }

        private int alikeWith(int word) {
            for (int i = 0; i < 4; i++) {
                if (place + i >= length || bytes[place + i] != WORDS.charAt(word * 4 + i)) {
                    return i;
                }
            }
            return 4;
        }

        private boolean readEither(Hall hall, int depth) {
            if (!readOne(hall, depth)) {
                return false;
            }
            boolean hasOpenOr = false;
            for (int i = 0; i < MOST; i++) {
                int sign = signHere();
                if (sign != '&' && sign != '|') {
                    break;
                }
                // an | waits until all that & joins behind it has been read
                if (sign == '|' && hasOpenOr) {
                    hall.putCode(Hall.OR);
                }
                hasOpenOr = hasOpenOr || sign == '|';
                place++;
                if (!readOne(hall, depth)) {
                    return false;
                }
                if (sign == '&') {
                    hall.putCode(Hall.AND);
                }
            }
            if (hasOpenOr) {
                hall.putCode(Hall.OR);
            }
            return true;
        }

        private boolean readOne(Hall hall, int depth) {
            int sign = signHere();
            if (sign != '!' && sign != '(') {
                return readTest(hall);
            }
            if (depth >= DEEPEST) {
                return false;
            }
            place++;
            if (sign == '(') {
                return readEither(hall, depth + 1) && skip(')');
            }
            return readNot(hall, depth + 1);
        }

        private boolean readNot(Hall hall, int depth) {
            if (!readOne(hall, depth)) {
                return false;
            }
            hall.putCode(Hall.NOT);
            return true;
        }

        private boolean readTest(Hall hall) {
            int letter = LETTERS.indexOf((char) signHere());
            if (letter < 0) {
                return false;
            }
            place++;
            int sign = SIGNS.indexOf((char) signHere());
            if (sign < 0) {
                return false;
            }
            place++;
            int number = readNumber();
            if (number < 0) {
                return false;
            }
            hall.putTest(letter, sign, number);
            return true;
        }

        /** A number of 1 or 2 digits, or -1. */
        private int readNumber() {
            int number = -1;
            for (int i = 0; i < 2; i++) {
                int sign = signHere();
                if (sign < '0' || sign > '9') {
                    return number;
                }
                number = Math.max(number, 0) * 10 + sign - '0';
                place++;
            }
            return number;
        }

        private boolean skip(char wanted) {
            if (signHere() != wanted) {
                return false;
            }
            place++;
            return true;
        }

        private int signHere() {
            return place < length && place < MOST ? bytes[place] : END;
        }
    }

    /** STEPS from BELT to BELT. */
    private static final class Ways {
        static final int NO_KEY = 1 << 30;
        private static final int OUT = 99;
        private static final int MOST_WAYS = 40;

        private final World world;
        private final Halls halls;
        /** How many STEPS from each BELT to the one measured; OUT: by none. */
        private final int[] far = new int[BELTS];
        private final int[] keys = new int[BELTS];
        private final int[] nextKeys = new int[BELTS];

        Ways(World world, Halls halls) {
            this.world = world;
            this.halls = halls;
        }

        void measure(int target) {
            Arrays.fill(far, OUT);
            far[target] = 0;
            for (int pass = 1; pass < BELTS; pass++) {
                for (int b = 0; b < BELTS; b++) {
                    int least = Math.min(far[world.first[b]], far[world.second[b]]);
                    far[b] = Math.min(far[b], least + 1);
                }
            }
        }

        int farOrNone(int belt) {
            return far[belt] >= OUT ? BY_NONE : far[belt];
        }

        /** Where a READ STEP goes from a BELT, as it was measured. */
        int readTo(int belt) {
            int first = world.first[belt];
            int second = world.second[belt];
            return far[second] < far[first] ? second : first;
        }

        int seenOfTen(Bag bag, int belt, int steps) {
            return Math.max(0, Math.min(10, seenByKind(bag, belt, steps)));
        }

        private int seenByKind(Bag bag, int belt, int steps) {
            if (bag.kind == KIND_HANDLED) {
                return bag.v;
            }
            if (bag.kind == KIND_TAKEN) {
                return belt == bag.v ? 0 : bag.v;
            }
            Hall hall = halls.holding(world);
            int n = 7 + hall.total(WORD_READ, bag, belt, steps) - hall.total(WORD_BLUR, bag, belt, steps);
            switch (bag.kind) {
                case KIND_READ: return n + 1;
                case KIND_TAGGED: return n + 1 + bag.v;
                case KIND_LOST: return n - bag.torn;
                case KIND_ROUND: return (n - bag.torn) / 2;
                default: return n;
            }
        }

        int takesOf(Bag bag, int belt, int steps) {
            return 1 + halls.holding(world).total(WORD_SLOW, bag, belt, steps);
        }

        /** A STEP of a CASE that is not THERE: the BELT on which it is then. */
        int goOn(Bag bag, boolean isRead) {
            measure(bag.slip);
            bag.minutes += takesOf(bag, bag.belt, bag.steps);
            bag.steps++;
            bag.belt = isRead ? readTo(bag.belt) : world.first[bag.belt];
            return bag.belt;
        }

        /**
         * Twice the MINUTES of the SOONEST, and 1 if its first STEP must be READ: of two ways of as many
         * MINUTES the one that begins without being READ has the lesser key. NO_KEY: by none.
         */
        int soonestKey(Bag bag) {
            measure(bag.slip);
            Arrays.fill(keys, NO_KEY);
            keys[bag.belt] = 0;
            int best = NO_KEY;
            for (int i = 0; i < MOST_WAYS; i++) {
                stepKeys(bag, i, best);
                best = Math.min(best, keys[bag.slip]);
                keys[bag.slip] = NO_KEY;
            }
            return best;
        }

        private void stepKeys(Bag bag, int step, int best) {
            Arrays.fill(nextKeys, NO_KEY);
            for (int b = 0; b < BELTS; b++) {
                // each STEP costs, so what is no better by now never will be
                if (keys[b] >= best || far[b] >= OUT) {
                    continue;
                }
                int key = keys[b] + 2 * takesOf(bag, b, bag.steps + step);
                int first = world.first[b];
                int read = readTo(b);
                nextKeys[first] = Math.min(nextKeys[first], key);
                nextKeys[read] = Math.min(nextKeys[read], step == 0 ? key + 1 : key);
            }
            System.arraycopy(nextKeys, 0, keys, 0, BELTS);
        }

        int ringBits(Bag bag) {
            measure(bag.slip);
            int come = 1 << bag.belt;
            for (int pass = 1; pass < BELTS; pass++) {
                for (int b = 0; b < BELTS; b++) {
                    if ((come >> b & 1) == 1 && b != bag.slip) {
                        come |= 1 << world.first[b] | 1 << readTo(b);
                    }
                }
            }
            for (int b = 0; b < BELTS; b++) {
                if (far[b] < OUT) {
                    come &= ~(1 << b);
                }
            }
            return come;
        }

        int stepsTillThere(Bag bag, boolean isRead) {
            measure(bag.slip);
            int belt = bag.belt;
            for (int n = 0; n <= MOST_WAYS; n++) {
                if (belt == bag.slip) {
                    return n;
                }
                belt = isRead ? readTo(belt) : world.first[belt];
            }
            return BY_NONE;
        }

        /** TAKES of all BELTS of the way to the SLIP's BELT, if it is always READ and comes THERE. */
        int takesIfRead(Bag bag) {
            measure(bag.slip);
            int belt = bag.belt;
            int sum = 0;
            for (int n = 0; n < BELTS && belt != bag.slip; n++) {
                sum += takesOf(bag, belt, bag.steps + n);
                belt = readTo(belt);
            }
            return sum;
        }

        int firstWrongRow(Bag bag) {
            measure(bag.slip);
            for (int i = 0; i < world.filmCount; i++) {
                if (!mayBe(bag, i)) {
                    return i;
                }
            }
            return BY_NONE;
        }

        private boolean mayBe(Bag bag, int row) {
            int belt = world.film[row];
            if (row == 0) {
                return belt == bag.belt;
            }
            int before = world.film[row - 1];
            if (before == bag.slip) {
                return belt == before;
            }
            return belt == world.first[before] || belt == readTo(before);
        }
    }

    /** How likely a CASE is somewhere. */
    private static final class Odds {
        private static final int MOST_MORE = 2 * MOST_ASKED_STEPS;

        private final World world;
        private final Ways ways;
        /** On how many of all ways a CASE is on each BELT. */
        private final int[] shares = new int[BELTS];
        private final int[] nextShares = new int[BELTS];
        /** On how many of all ways the STEPS take so many MINUTES more. */
        private final int[] more = new int[MOST_MORE + 1];

        Odds(World world, Ways ways) {
            this.world = world;
            this.ways = ways;
        }

        long shareOn(Bag bag, int n, int belt, int part) {
            ways.measure(bag.slip);
            Arrays.fill(shares, 0);
            shares[bag.belt] = 1;
            int all = 1;
            for (int i = 0; i < n; i++) {
                spread(bag, bag.steps + i);
                all *= 10;
            }
            return lowest(shares[belt], all, part);
        }

        private void spread(Bag bag, int steps) {
            Arrays.fill(nextShares, 0);
            for (int b = 0; b < BELTS; b++) {
                if (shares[b] == 0) {
                    continue;
                }
                if (b == bag.slip) {
                    nextShares[b] += shares[b] * 10;
                    continue;
                }
                int seen = ways.seenOfTen(bag, b, steps);
                nextShares[ways.readTo(b)] += shares[b] * seen;
                nextShares[world.first[b]] += shares[b] * (10 - seen);
            }
            System.arraycopy(nextShares, 0, shares, 0, BELTS);
        }

        long changeShare(Bag bag, int n, int part) {
            int steps = ways.stepsTillThere(bag, true);
            if (steps < 0 || steps > MOST_ASKED_STEPS) {
                return part;
            }
            int all = countMore(steps);
            return lowest(withinMore(n - ways.takesIfRead(bag)), all, part);
        }

        int leastMinutes(Bag bag, int p) {
            int steps = ways.stepsTillThere(bag, true);
            if (steps < 0 || steps > MOST_ASKED_STEPS) {
                return BY_NONE;
            }
            int all = countMore(steps);
            int takes = ways.takesIfRead(bag);
            for (int n = 0; n <= MOST_MINUTES; n++) {
                if (withinMore(n - takes) * 10 >= p * all) {
                    return n;
                }
            }
            return BY_NONE;
        }

        /** Counts the ways of 0, 1 or 2 MINUTES more at each of the STEPS: how many there are in all. */
        private int countMore(int steps) {
            Arrays.fill(more, 0);
            more[0] = 1;
            int all = 1;
            for (int i = 0; i < steps; i++) {
                for (int k = MOST_MORE; k >= 1; k--) {
                    more[k] += more[k - 1] + (k >= 2 ? more[k - 2] : 0);
                }
                all *= 3;
            }
            return all;
        }

        private int withinMore(int minutes) {
            int sum = 0;
            for (int k = 0; k <= MOST_MORE && k <= minutes; k++) {
                sum += more[k];
            }
            return sum;
        }

        private static long lowest(int above, int below, int part) {
            int divisor = below;
            int rest = above;
            for (int i = 0; i < 100 && rest != 0; i++) {
                int left = divisor % rest;
                divisor = rest;
                rest = left;
            }
            if (divisor == 0) {
                return NO;
            }
            return (part == 0 ? above : below) / divisor;
        }
    }

    /** OWNERS and the CASES that may be theirs. */
    private static final class Claims {
        private static final int SETS = 1 << CASES;

        private final World world;
        private final int[] fits = new int[OWNERS * CASES];
        /** The most FIT of the OWNERS from each one on, for each set of CASES that others have, as bits. */
        private final int[] most = new int[(OWNERS + 1) * SETS];

        Claims(World world) {
            this.world = world;
        }

        private static int alikeDigits(int marks, int other) {
            int n = 0;
            if (marks / 100 == other / 100) {
                n++;
            }
            if (marks / 10 % 10 == other / 10 % 10) {
                n++;
            }
            if (marks % 10 == other % 10) {
                n++;
            }
            return n;
        }

        int likeBits(int marks, int slips) {
            int bits = 0;
            for (int i = 0; i < world.bagCount; i++) {
                if (3 - alikeDigits(marks, world.bags[i].marks) <= slips) {
                    bits |= 1 << i;
                }
            }
            return bits;
        }

        int fitOf(int owner, Bag bag) {
            int alike = alikeDigits(world.told[owner], bag.marks);
            return bag.belt == world.waits[owner] ? alike + 1 : alike;
        }

        void weigh() {
            int sets = 1 << world.bagCount;
            for (int taken = 0; taken < sets; taken++) {
                most[world.ownerCount * SETS + taken] = 0;
            }
            for (int owner = world.ownerCount - 1; owner >= 0; owner--) {
                for (int bag = 0; bag < world.bagCount; bag++) {
                    fits[owner * CASES + bag] = fitOf(owner, world.bags[bag]);
                }
                for (int taken = 0; taken < sets; taken++) {
                    // so few OWNERS ahead can't have so many CASES
                    if (Integer.bitCount(taken) <= owner) {
                        most[owner * SETS + taken] = mostFrom(owner, taken);
                    }
                }
            }
        }

        private int mostFrom(int owner, int taken) {
            int best = most[(owner + 1) * SETS + taken];
            for (int bag = 0; bag < world.bagCount; bag++) {
                if ((taken >> bag & 1) == 0) {
                    best = Math.max(best, withBag(owner, taken, bag));
                }
            }
            return best;
        }

        private int withBag(int owner, int taken, int bag) {
            return fits[owner * CASES + bag] + most[(owner + 1) * SETS + (taken | 1 << bag)];
        }

        int mostInAll() {
            return most[0];
        }

        /** The CASE of an OWNER, or -5, as it was weighed. */
        int bagOf(int owner) {
            int taken = 0;
            int bag = BY_NONE;
            for (int i = 0; i <= owner; i++) {
                bag = firstBest(i, taken);
                if (bag >= 0) {
                    taken |= 1 << bag;
                }
            }
            return bag;
        }

        private int firstBest(int owner, int taken) {
            for (int bag = 0; bag < world.bagCount; bag++) {
                boolean isFree = (taken >> bag & 1) == 0;
                if (isFree && withBag(owner, taken, bag) == most[owner * SETS + taken]) {
                    return bag;
                }
            }
            return BY_NONE;
        }

        int changedPairs() {
            int n = 0;
            for (int one = 0; one < world.ownerCount; one++) {
                for (int other = one + 1; other < world.ownerCount; other++) {
                    if (isChanged(one, other)) {
                        n++;
                    }
                }
            }
            return n;
        }

        int firstChangedPair() {
            for (int one = 0; one < world.ownerCount; one++) {
                for (int other = one + 1; other < world.ownerCount; other++) {
                    if (isChanged(one, other)) {
                        return 10 * one + other;
                    }
                }
            }
            return BY_NONE;
        }

        private boolean isChanged(int one, int other) {
            Bag x = world.leastOn(world.waits[one]);
            Bag y = world.leastOn(world.waits[other]);
            if (x == null || y == null) {
                return false;
            }
            int oneTold = world.told[one];
            int otherTold = world.told[other];
            return alikeDigits(oneTold, y.marks) > alikeDigits(oneTold, x.marks)
                && alikeDigits(otherTold, x.marks) > alikeDigits(otherTold, y.marks);
        }
    }

    /** ACTS, and THE TRACE of the latest. */
    private static final class Acts {
        static final int SORTS = 3;
        private static final int RIDES = 0, WAITS = 1, TELLS = 2;
        private static final int KEPT = 20;
        private static final int DEEPEST = 40;
        /** The body that each KIND has of rides, waits, tells; 0: none. */
        private static final int[] BODIES = {
            10, 11, 12,
            0, 20, 0,
            30, 0, 0,
            0, 0, 40,
            50, 51, 0,
            0, 0, 60,
            71, 70, 0,
        };

        final int[] numbers = new int[KEPT];
        int ran = 0;

        boolean isKept(int i) {
            return i >= 0 && i < ran && i < KEPT;
        }

        int run(Bag bag, int act, int x) {
            return runFrom(this, bag, bag.kind, act, x, 0);
        }

        /** Runs the body of an act that a KIND has, or the next above it that has one. */
        private static int runFrom(Acts acts, Bag bag, int kind, int act, int x, int depth) {
            if (depth > DEEPEST) {
                return 0;
            }
            int body = bodyFrom(kind, act);
            acts.note(body);
            int own = bag.kind;
            int above = body >= 10 && body / 10 <= KINDS ? ABOVE[body / 10 - 1] : -1;
            int next = depth + 1;
            switch (body) {
                case 10: return x + bag.number;
                case 11: return runFrom(acts, bag, own, RIDES, x, next) - bag.v;
                case 12: return runFrom(acts, bag, own, WAITS, x, next) * 2;
                case 20: return runFrom(acts, bag, above, WAITS, x, next) ^ 6;
                case 30: return runFrom(acts, bag, above, RIDES, x * 3, next);
                case 40: return runFrom(acts, bag, above, TELLS, x, next) + runFrom(acts, bag, own, WAITS, 1, next);
                case 50: return -runFrom(acts, bag, above, RIDES, x, next);
                case 51: return runFrom(acts, bag, above, WAITS, x + 1, next);
                case 60: return runFrom(acts, bag, above, TELLS, x - bag.number, next);
                case 70: return runFrom(acts, bag, above, WAITS, x, next) + runFrom(acts, bag, above, RIDES, 2, next);
                case 71: return runFrom(acts, bag, above, RIDES, x, next) ^ bag.v;
                default: return 0;
            }
        }

        private static int bodyFrom(int kind, int act) {
            int at = kind;
            for (int i = 0; i < KINDS && isKind(at); i++) {
                int body = BODIES[at * SORTS + act];
                if (body != 0) {
                    return body;
                }
                at = ABOVE[at];
            }
            return 0;
        }

        private void note(int body) {
            if (ran < KEPT) {
                numbers[ran] = body;
            }
            ran++;
        }
    }

    /** TAPES, all kept as longs, each at its own part of one row. */
    private static final class Tapes {
        static final int SORT_NONE = -1, SORT_BYTES = 0, SORT_SHORTS = 1, SORT_INTS = 2, SORT_BOOLEANS = 4;
        static final int LONGEST = 60;
        private static final int TAPES = 6;

        final int[] sorts = new int[TAPES];
        private final int[] lengths = new int[TAPES];
        private final long[] items = new long[TAPES * LONGEST];

        Tapes() {
            Arrays.fill(sorts, SORT_NONE);
        }

        boolean isTape(int tape) {
            return tape >= 0 && tape < TAPES;
        }

        boolean holds(int tape) {
            return sorts[tape] != SORT_NONE;
        }

        boolean hasPlace(int tape, int i) {
            return i >= 0 && i < lengths[tape];
        }

        boolean hasPlaces(int tape, int i, int n) {
            return n >= 0 && i >= 0 && i <= lengths[tape] && n <= lengths[tape] - i;
        }

        void begin(int tape, int sort, int n) {
            sorts[tape] = sort;
            lengths[tape] = n;
            for (int i = 0; i < LONGEST; i++) {
                items[tape * LONGEST + i] = 0;
            }
        }

        void put(int tape, int i, long v) {
            items[tape * LONGEST + i] = cut(sorts[tape], v);
        }

        private static long cut(int sort, long v) {
            switch (sort) {
                case SORT_BYTES: return (byte) v;
                case SORT_SHORTS: return (short) v;
                case SORT_INTS: return (int) v;
                case SORT_BOOLEANS: return v != 0 ? 1 : 0;
                default: return v;
            }
        }

        /** The item at a place, or NO: a TAPE that holds nothing has no places. */
        long valueAt(int tape, int i) {
            return hasPlace(tape, i) ? items[tape * LONGEST + i] : NO;
        }

        void move(int tape, int i, int other, int j, int n) {
            System.arraycopy(items, tape * LONGEST + i, items, other * LONGEST + j, n);
        }
    }
}
