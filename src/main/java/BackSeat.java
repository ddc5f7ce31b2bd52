/**
 * The back seat of a coach: who sits where, how loud, queasy and glad all are by THE RULE, and
 * what would be best. What is tried in thought is tried on a second Coach, so that a call
 * that only asks changes nothing. Every row is made once, in a constructor, and used again.
 */
public final class BackSeat {
    public static final int NONE = -1, BAD = -2, STATE = -3, FULL = -4;
    public static final long NO = -4611686018427387904L;

    private static final int NOTHING = -11, OUTSIDE = -12, UNLIKE = -13, BELOW = -14;
    private static final int REFUSED = -100000;

    private static final int MOST_PASSENGERS = 8, SEATS = 24, COLUMNS = 4, REAR = 5;
    private static final int REAR_LEFT = REAR * COLUMNS + 1, REAR_RIGHT = REAR * COLUMNS + 2;
    private static final int MOST_NUMBER = 9, MOST_MILE = 99, MOST_LIMIT = 999;
    private static final int MOST_RIDE = 60, MOST_SEEDS = 20, MOST_DRAWN = 6;

    private static final int CHILD = 0, LOUD = 1, SICKLY = 2, TOM = 3, BABY = 4, TEACHER = 5;
    private static final int KINDS = 6;

    private static final int MOST_TEXTS = 6, TAPE = 160, MOST_OPEN = 5, FAULTY = -100;
    private static final int PART_SOUNDS = 0, PART_TURNS = 1, PART_JOYS = 2, PARTS = 3;
    private static final String FIRST_RULE = "sounds 5 + row ; turns row ; joys beside ;";

    /*
     * A TOKEN is one int, which is also what it does in a TEXT's code: 0 .. 9999 a NUMBER itself,
     * then NAMES, KEYS, a - ahead of a ONE, and the SIGNS by their bytes.
     */
    private static final int END = -1, STOPPED = -2;
    private static final int ROW = 10000, COLUMN = 10001, MILE = 10002, NUMBER = 10003;
    private static final int BESIDE = 10004, FRIEND = 10005;
    private static final int SOUNDS = 10006, TURNS = 10007, JOYS = 10008;
    private static final int OR = 10009, AND = 10010, NOT = 10011, NEGATE = 10012;
    private static final int SIGN = 11000;
    private static final int PLUS = SIGN + '+', MINUS = SIGN + '-', TIMES = SIGN + '*';
    private static final int LESS = SIGN + '<', SAME = SIGN + '=', CLOSE = SIGN + ';';
    private static final int LEFT = SIGN + '(', RIGHT = SIGN + ')';
    private static final int NAMES = 6, MOST_DIGITS = 4;

    private static final int MOST_SHEETS = 4, MOST_ITEMS = 40;
    private static final int BYTES = 0, SHORTS = 1, INTS = 2;

    private final Texts texts;
    private final Reader reader;
    private final Coach now;
    private final Coach thought;
    private final Coach kept;
    private boolean isKept;
    private final Ride journey;
    private final Hat drawing;
    private final Sheet[] sheets;

    public BackSeat() {
        texts = new Texts();
        reader = new Reader(texts);
        now = new Coach(texts);
        thought = new Coach(texts);
        kept = new Coach(texts);
        isKept = false;
        journey = new Ride();
        drawing = new Hat();
        sheets = new Sheet[MOST_SHEETS];
        for (int i = 0; i < sheets.length; i++) {
            sheets[i] = new Sheet();
        }
        for (int i = 0; i < FIRST_RULE.length(); i++) {
            reader.append(FIRST_RULE.charAt(i));
        }
        reader.read();
    }

    // ---- passengers, seats

    public int set(int what, int of, int v) {
        if (what == 0 || what == 1) {
            return setForAll(what, v);
        }
        if (!now.has(of)) {
            return BAD;
        }
        if (what == 2 && v >= 0 && v <= MOST_NUMBER) {
            return swapItem(now.numbers, of, v);
        }
        if (what == 3 && v != of && (v == NONE || now.has(v))) {
            return swapItem(now.friends, of, v);
        }
        return BAD;
    }

    private int setForAll(int what, int v) {
        if (v < 0 || v > (what == 0 ? MOST_MILE : MOST_LIMIT)) {
            return BAD;
        }
        int was = what == 0 ? now.mile : now.limit;
        if (what == 0) {
            now.mile = v;
        } else {
            now.limit = v;
        }
        return was;
    }

    public int passenger(int kind, int number) {
        if (kind < 0 || kind >= KINDS || number < 0 || number > MOST_NUMBER) {
            return BAD;
        }
        return now.size >= MOST_PASSENGERS ? FULL : now.join(kind, number);
    }

    public int sit(int one, int seat) {
        if (!now.has(one) || seat < NONE || seat >= SEATS) {
            return BAD;
        }
        int sitter = now.sitterAt(seat);
        if (sitter != NONE && sitter != one) {
            return STATE;
        }
        int was = now.seatOf(one);
        now.move(one, seat);
        return was;
    }

    public int told(int of, int what) {
        if (what == 0) {
            return now.mile;
        }
        if (what == 1) {
            return now.limit;
        }
        if (!now.has(of)) {
            return BAD;
        }
        switch (what) {
            case 2: return now.numberOf(of);
            case 3: return now.friendOf(of);
            case 4: return now.kindOf(of);
            case 5: return now.seatOf(of);
            case 6: return now.noise(of);
            case 7: return now.queasy(of, now.mile);
            case 8: return now.neighbours(of);
            case 9: return now.isWatched(of) ? 1 : 0;
            default: return BAD;
        }
    }

    public int who(int seat) {
        return seat < 0 || seat >= SEATS ? BAD : now.sitterAt(seat);
    }

    // ---- texts

    public int feed(int letter) {
        if (letter < 0 || letter > 255) {
            return BAD;
        }
        return reader.size >= TAPE ? FULL : reader.append(letter);
    }

    public int text() {
        if (texts.size >= MOST_TEXTS) {
            return FULL;
        }
        int fault = reader.read();
        return fault == NONE ? texts.size - 1 : FAULTY - fault;
    }

    public int force(int text) {
        if (text < 0 || text >= texts.size) {
            return BAD;
        }
        int was = now.rule;
        now.rule = text;
        return was;
    }

    // ---- miles

    public int all(int what) {
        switch (what) {
            case 0: return now.din();
            case 1: return now.joy();
            case 2: return now.alone();
            default: return REFUSED;
        }
    }

    public int ride(int n, int what) {
        boolean asksAll = what == 0 || what == 1;
        boolean asksOne = what >= 10 && what < 30 && now.has(what % 10);
        if (!isRide(n) || !asksAll && !asksOne) {
            return BAD;
        }
        journey.plan(now, n);
        int sick = journey.sick(NONE);
        if (asksAll) {
            return what == 0 ? sick : journey.firstSick();
        }
        return itemAt(what < 20 ? journey.firsts : journey.often, what % 10);
    }

    private static boolean isRide(int n) {
        return n >= 0 && n <= MOST_RIDE;
    }

    // ---- what would be best

    public int best(int one, int what) {
        if (!now.has(one) || !isZeroOrOne(what)) {
            return BAD;
        }
        int best = NONE;
        int least = 0;
        for (int seat = 0; seat < SEATS; seat++) {
            if (now.isOpen(seat, one)) {
                int din = dinMoved(one, seat);
                if (best == NONE || din < least) {
                    best = seat;
                    least = din;
                }
            }
        }
        return what == 0 ? best : least;
    }

    public int change(int what) {
        if (!isZeroOrOne(what)) {
            return BAD;
        }
        int best = NONE;
        int least = now.din();
        for (int one = 0; one < now.size; one++) {
            for (int other = one + 1; other < now.size; other++) {
                int din = now.sits(one) && now.sits(other) ? dinChanged(one, other) : least;
                if (din < least) {
                    best = 10 * one + other;
                    least = din;
                }
            }
        }
        return what == 0 ? best : least;
    }

    /** One who stands has no SEAT to change: only those who sit come into question. */
    public int watch(int what) {
        if (!isZeroOrOne(what)) {
            return BAD;
        }
        int teacher = now.firstTeacher();
        int best = NONE;
        int least = now.din();
        for (int one = 0; one < now.size; one++) {
            boolean mayGo = now.sits(one) && !now.isTeacher(one);
            for (int other = 0; other < now.size && mayGo; other++) {
                int din = now.areBeside(other, teacher) ? dinChanged(one, other) : least;
                if (din < least) {
                    best = 10 * one + other;
                    least = din;
                }
            }
        }
        return what == 0 ? best : least;
    }

    public int hat(int sheet, int what) {
        Sheet told = sheetAt(sheet);
        if (told == null || !isZeroOrOne(what) || !drawing.takes(told, now)) {
            return REFUSED;
        }
        thought.take(now);
        drawing.seek(thought);
        return what == 0 ? drawing.bestJoy : drawing.bestDigits;
    }

    public int front(int n, int what) {
        if (!isRide(n) || !isZeroOrOne(what)) {
            return BAD;
        }
        int seat = now.firstFreeInFront();
        int best = NONE;
        journey.plan(now, n);
        int least = journey.sick(NONE);
        for (int one = 0; one < now.size && seat != NONE; one++) {
            int sick = now.sits(one) ? sickMoved(one, seat, n) : least;
            if (sick < least) {
                best = one;
                least = sick;
            }
        }
        return what == 0 ? best : least;
    }

    public int stop(int n, int what) {
        if (!isRide(n) || !isZeroOrOne(what)) {
            return BAD;
        }
        journey.plan(now, n);
        int best = NONE;
        int least = journey.sick(NONE);
        for (int mile = 0; mile < n; mile++) {
            int sick = journey.sick(mile);
            if (sick < least) {
                best = mile;
                least = sick;
            }
        }
        return what == 0 ? best : least;
    }

    private static boolean isZeroOrOne(int what) {
        return what == 0 || what == 1;
    }

    private int dinMoved(int one, int seat) {
        thought.take(now);
        thought.move(one, seat);
        return thought.din();
    }

    private int dinChanged(int one, int other) {
        thought.take(now);
        thought.exchange(one, other);
        return thought.din();
    }

    private int sickMoved(int one, int seat, int n) {
        thought.take(now);
        thought.move(one, seat);
        journey.plan(thought, n);
        return journey.sick(NONE);
    }

    // ---- noises that were told

    public int tells(int sheet, int what) {
        Sheet told = sheetAt(sheet);
        boolean asksAll = what >= 0 && what <= 3;
        boolean asksOne = what >= 10 && what < 40 && now.has(what % 10);
        if (told == null || !asksAll && !asksOne) {
            return BAD;
        }
        if (told.isMissing()) {
            return NOTHING;
        }
        if (told.size != now.size) {
            return BAD;
        }
        thought.take(now);
        int one = what % 10;
        switch (what / 10) {
            case 1: return itemsTold(told, thought.kinds, one, KINDS);
            case 2: return itemsTold(told, thought.numbers, one, MOST_NUMBER + 1);
            case 3: return seatsTold(told, one);
            default: break;
        }
        switch (what) {
            case 0: return thought.otherwise(told);
            case 1: return textsTold(told);
            case 2: return milesTold(told);
            default: return leastMileTold(told);
        }
    }

    private int textsTold(Sheet told) {
        int bits = 0;
        for (int text = 0; text < texts.size; text++) {
            thought.rule = text;
            if (thought.otherwise(told) == 0) {
                bits |= 1 << text;
            }
        }
        return bits;
    }

    private int milesTold(Sheet told) {
        int miles = 0;
        for (int mile = 0; mile <= MOST_MILE; mile++) {
            thought.mile = mile;
            if (thought.otherwise(told) == 0) {
                miles++;
            }
        }
        return miles;
    }

    private int leastMileTold(Sheet told) {
        for (int mile = 0; mile <= MOST_MILE; mile++) {
            thought.mile = mile;
            if (thought.otherwise(told) == 0) {
                return mile;
            }
        }
        return NONE;
    }

    /** Which of 0 .. most less 1 could stand for one in a row of the Coach in thought. */
    private int itemsTold(Sheet told, int[] row, int one, int most) {
        int bits = 0;
        for (int v = 0; v < most; v++) {
            put(row, one, v);
            if (thought.otherwise(told) == 0) {
                bits |= 1 << v;
            }
        }
        return bits;
    }

    private int seatsTold(Sheet told, int one) {
        int bits = 0;
        for (int seat = 0; seat < SEATS; seat++) {
            if (now.isOpen(seat, one)) {
                thought.move(one, seat);
                if (thought.otherwise(told) == 0) {
                    bits |= 1 << seat;
                }
            }
        }
        return bits;
    }

    public int film(int sheet) {
        Sheet film = sheetAt(sheet);
        if (film == null) {
            return BAD;
        }
        film.become(SHORTS, now.size);
        for (int one = 0; one < now.size; one++) {
            film.write(one, now.noise(one));
        }
        return now.size;
    }

    public int drawn(int seed) {
        thought.take(now);
        for (int one = 0; one < thought.size; one++) {
            thought.move(one, NONE);
        }
        int z = seed;
        for (int one = 0; one < thought.size; one++) {
            z = z * 1103515245 + 12345;
            thought.move(one, thought.firstFreeFrom((z >>> 9) % SEATS));
        }
        return thought.din();
    }

    public long chance(int seed, int n, int part) {
        if (n < 1 || n > MOST_SEEDS || !isZeroOrOne(part)) {
            return NO;
        }
        int din = now.din();
        int those = 0;
        for (int i = 0; i < n; i++) {
            if (drawn(seed + i) <= din) {
                those++;
            }
        }
        return part == 0 ? lowered(those, those, n) : lowered(n, those, n);
    }

    /** v divided by the greatest divisor of m and n. */
    private static int lowered(int v, int m, int n) {
        for (int d = n; d > 1; d--) {
            if (m % d == 0 && n % d == 0) {
                return v / d;
            }
        }
        return v;
    }

    public int image() {
        kept.take(now);
        isKept = true;
        return now.size;
    }

    public int back() {
        if (!isKept) {
            return STATE;
        }
        now.take(kept);
        return now.size;
    }

    public int count(int what) {
        switch (what) {
            case 0: return now.size;
            case 1: return now.sitting();
            case 2: return texts.size;
            case 3: return reader.size;
            case 4: return now.rule;
            default: return BAD;
        }
    }

    // ---- the host

    public int sheet(int sheet, int sort, int n) {
        Sheet row = sheetAt(sheet);
        if (row == null || sort < NONE || sort > INTS) {
            return BAD;
        }
        if (sort == NONE) {
            row.become(NONE, 0);
            return 1;
        }
        if (n > MOST_ITEMS) {
            return BAD;
        }
        if (n < 0) {
            return BELOW;
        }
        row.become(sort, n);
        return 1;
    }

    public int cell(int sheet, int i, int v) {
        Sheet row = sheetAt(sheet);
        if (row == null) {
            return BAD;
        }
        if (row.isMissing()) {
            return NOTHING;
        }
        if (!row.has(i)) {
            return OUTSIDE;
        }
        row.write(i, v);
        return 1;
    }

    public int copy(int sheet, int i, int other, int j, int n) {
        Sheet from = sheetAt(sheet);
        Sheet to = sheetAt(other);
        if (from == null || to == null) {
            return BAD;
        }
        if (from.isMissing() || to.isMissing()) {
            return NOTHING;
        }
        if (from.sort != to.sort) {
            return UNLIKE;
        }
        if (!from.hasRun(i, n) || !to.hasRun(j, n)) {
            return OUTSIDE;
        }
        System.arraycopy(from.items, i, to.items, j, n);
        return n;
    }

    public int passengers(int sheet, int sort, int from, int n) {
        Sheet row = sheetAt(sheet);
        if (row == null || sort < BYTES || sort > INTS || n < 0 || n > MOST_PASSENGERS) {
            return BAD;
        }
        if (!row.isMissing() && row.sort != sort) {
            return UNLIKE;
        }
        if (row.isMissing()) {
            return NOTHING;
        }
        int came = 0;
        for (int k = 0; k < n; k++) {
            int i = from + 2 * k;
            if (!row.has(i) || !row.has(i + 1)) {
                return OUTSIDE;
            }
            if (passenger(row.item(i), row.item(i + 1)) >= 0) {
                came++;
            }
        }
        return came;
    }

    public int taken(int one, int k) {
        if (k < 0 || k >= KINDS) {
            return BAD;
        }
        if (!now.has(one)) {
            return NOTHING;
        }
        return isUnder(now.kindOf(one), k) ? now.numberOf(one) : UNLIKE;
    }

    private static boolean isUnder(int kind, int k) {
        int at = kind;
        for (int step = 0; step < KINDS && at != k && at != NONE; step++) {
            at = kindAbove(at);
        }
        return at == k;
    }

    private static int kindAbove(int kind) {
        switch (kind) {
            case LOUD: case SICKLY: case TEACHER: return CHILD;
            case TOM: return LOUD;
            case BABY: return SICKLY;
            default: return NONE;
        }
    }

    private Sheet sheetAt(int i) {
        return i >= 0 && i < sheets.length ? sheets[i] : null;
    }

    // ---- rows: no index is used before it is looked at

    private static int itemAt(int[] row, int i) {
        return i >= 0 && i < row.length ? row[i] : 0;
    }

    private static void put(int[] row, int i, int v) {
        if (i >= 0 && i < row.length) {
            row[i] = v;
        }
    }

    private static int swapItem(int[] row, int i, int v) {
        int was = itemAt(row, i);
        put(row, i, v);
        return was;
    }

    private static void fill(int[] row, int v) {
        for (int i = 0; i < row.length; i++) {
            row[i] = v;
        }
    }

    private static void fillFrom(int[] row, int[] other) {
        if (row.length == other.length) {
            System.arraycopy(other, 0, row, 0, row.length);
        }
    }

    // ---- SEATS: which are BESIDE each other

    /** The SEAT of the same pair: COLUMNS 0 and 1, 2 and 3. */
    private static int pairSeat(int seat) {
        return seat == NONE ? NONE : seat % 2 == 0 ? seat + 1 : seat - 1;
    }

    /** The REAR goes across: its two inner SEATS are BESIDE each other, too. */
    private static int crossSeat(int seat) {
        return seat == REAR_LEFT ? REAR_RIGHT : seat == REAR_RIGHT ? REAR_LEFT : NONE;
    }

    // ---- KINDS: what a TEXT that tells v makes of one; the bounds hold for what comes out

    private static int noiseBy(int kind, int v, int row, int number, boolean isWatched) {
        int loud = 2 * v + (row == REAR ? number : 0);
        int sickly = v / 2;
        switch (kind) {
            case LOUD: return loud;
            case SICKLY: return sickly;
            case TOM: return isWatched ? 0 : loud + 5;
            case BABY: return sickly + number;
            case TEACHER: return 0;
            default: return v;
        }
    }

    private static int queasyBy(int kind, int v, int row) {
        int sickly = 2 * v + row;
        switch (kind) {
            case SICKLY: return sickly;
            case TOM: return row == REAR ? 0 : v;
            case BABY: return sickly / 2;
            case TEACHER: return 0;
            default: return v;
        }
    }

    private static int gladBy(int kind, int v, int row, boolean isBesideFriend) {
        int child = isBesideFriend ? v + 10 : v;
        int loud = row == REAR ? child + 5 : child;
        switch (kind) {
            case LOUD: return loud;
            case SICKLY: return child - row;
            case TOM: return 2 * loud;
            case BABY: return 3;
            case TEACHER: return -v;
            default: return child;
        }
    }

    private static int bounded(int v, int least, int most) {
        return v < least ? least : v > most ? most : v;
    }

    /** Who is in the coach, on which SEATS, in which MILE, by which RULE. */
    static final class Coach {
        final Texts texts;
        int mile;
        int limit;
        int rule;
        int size;
        final int[] kinds;
        final int[] numbers;
        final int[] friends;
        final int[] seats;
        /** Who sits on each SEAT: seats the other way round. */
        final int[] sitters;
        final int[] facts;

        Coach(Texts texts) {
            this.texts = texts;
            mile = 0;
            limit = 50;
            rule = 0;
            size = 0;
            kinds = new int[MOST_PASSENGERS];
            numbers = new int[MOST_PASSENGERS];
            friends = new int[MOST_PASSENGERS];
            seats = new int[MOST_PASSENGERS];
            sitters = new int[SEATS];
            fill(sitters, NONE);
            facts = new int[NAMES];
        }

        void take(Coach other) {
            mile = other.mile;
            limit = other.limit;
            rule = other.rule;
            size = other.size;
            fillFrom(kinds, other.kinds);
            fillFrom(numbers, other.numbers);
            fillFrom(friends, other.friends);
            fillFrom(seats, other.seats);
            fillFrom(sitters, other.sitters);
        }

        boolean has(int one) {
            return one >= 0 && one < size;
        }

        int join(int kind, int number) {
            put(kinds, size, kind);
            put(numbers, size, number);
            put(friends, size, NONE);
            put(seats, size, NONE);
            size++;
            return size - 1;
        }

        int kindOf(int one) {
            return itemAt(kinds, one);
        }

        int numberOf(int one) {
            return itemAt(numbers, one);
        }

        int friendOf(int one) {
            return itemAt(friends, one);
        }

        int seatOf(int one) {
            return one >= 0 && one < size && one < seats.length ? seats[one] : NONE;
        }

        boolean sits(int one) {
            return seatOf(one) != NONE;
        }

        int sitterAt(int seat) {
            return seat >= 0 && seat < sitters.length ? sitters[seat] : NONE;
        }

        /** Whether a SEAT is free, or one's own. */
        boolean isOpen(int seat, int one) {
            int sitter = sitterAt(seat);
            return sitter == NONE || sitter == one;
        }

        /** Where one stands, put() leaves sitters alone: NONE is no place of it. */
        void move(int one, int seat) {
            put(sitters, seatOf(one), NONE);
            put(seats, one, seat);
            put(sitters, seat, one);
        }

        void exchange(int one, int other) {
            int seat = seatOf(one);
            int otherSeat = seatOf(other);
            move(one, NONE);
            move(other, seat);
            move(one, otherSeat);
        }

        int firstFreeFrom(int from) {
            for (int i = 0; i < SEATS; i++) {
                if (sitterAt((from + i) % SEATS) == NONE) {
                    return (from + i) % SEATS;
                }
            }
            return NONE;
        }

        int firstFreeInFront() {
            int seat = firstFreeFrom(0);
            return seat < COLUMNS ? seat : NONE;
        }

        int firstTeacher() {
            for (int one = 0; one < size; one++) {
                if (sits(one) && isTeacher(one)) {
                    return one;
                }
            }
            return NONE;
        }

        boolean areBeside(int one, int other) {
            int seat = seatOf(one);
            int otherSeat = seatOf(other);
            return otherSeat != NONE && (pairSeat(seat) == otherSeat || crossSeat(seat) == otherSeat);
        }

        int neighbours(int one) {
            int seat = seatOf(one);
            int partner = sitterAt(pairSeat(seat));
            int cross = sitterAt(crossSeat(seat));
            return (partner == NONE ? 0 : 1) + (cross == NONE ? 0 : 1);
        }

        boolean isWatched(int one) {
            int seat = seatOf(one);
            return isTeacher(sitterAt(pairSeat(seat))) || isTeacher(sitterAt(crossSeat(seat)));
        }

        boolean isTeacher(int one) {
            return has(one) && itemAt(kinds, one) == TEACHER;
        }

        /** What a part of THE RULE tells of one who sits, in a MILE. */
        int telling(int part, int one, int inMile) {
            int seat = seatOf(one);
            put(facts, ROW - ROW, seat / COLUMNS);
            put(facts, COLUMN - ROW, seat % COLUMNS);
            put(facts, MILE - ROW, inMile);
            put(facts, NUMBER - ROW, numberOf(one));
            put(facts, BESIDE - ROW, neighbours(one));
            put(facts, FRIEND - ROW, areBeside(one, friendOf(one)) ? 1 : 0);
            int v = texts.value(rule, part, facts);
            return bounded(v, part == PART_JOYS ? -99 : 0, 99);
        }

        int noise(int one) {
            if (!sits(one)) {
                return 0;
            }
            int v = telling(PART_SOUNDS, one, mile);
            int row = seatOf(one) / COLUMNS;
            return bounded(noiseBy(kindOf(one), v, row, numberOf(one), isWatched(one)), 0, 999);
        }

        int queasy(int one, int inMile) {
            if (!sits(one)) {
                return 0;
            }
            int v = telling(PART_TURNS, one, inMile);
            return bounded(queasyBy(kindOf(one), v, seatOf(one) / COLUMNS), 0, 99);
        }

        int glad(int one) {
            if (!sits(one)) {
                return 0;
            }
            int v = telling(PART_JOYS, one, mile);
            return gladBy(kindOf(one), v, seatOf(one) / COLUMNS, areBeside(one, friendOf(one)));
        }

        int din() {
            int sum = 0;
            for (int one = 0; one < size; one++) {
                sum += noise(one);
            }
            return sum;
        }

        int joy() {
            int sum = 0;
            for (int one = 0; one < size; one++) {
                sum += glad(one);
            }
            return sum;
        }

        int sitting() {
            int sum = 0;
            for (int one = 0; one < size; one++) {
                sum += sits(one) ? 1 : 0;
            }
            return sum;
        }

        int alone() {
            int sum = 0;
            for (int one = 0; one < size; one++) {
                sum += sits(one) && neighbours(one) == 0 ? 1 : 0;
            }
            return sum;
        }

        /** Whose NOISE isn't as a Sheet tells it, as bits. */
        int otherwise(Sheet told) {
            int bits = 0;
            for (int one = 0; one < size; one++) {
                if (noise(one) != told.item(one)) {
                    bits |= 1 << one;
                }
            }
            return bits;
        }
    }

    /** n MILES in thought; the QUEASY of all is reckoned once for all rides that are tried. */
    static final class Ride {
        final int[] queasy;
        final int[] has;
        final int[] firsts;
        final int[] often;
        int miles;
        int size;
        int limit;

        Ride() {
            queasy = new int[MOST_RIDE * MOST_PASSENGERS];
            has = new int[MOST_PASSENGERS];
            firsts = new int[MOST_PASSENGERS];
            often = new int[MOST_PASSENGERS];
        }

        void plan(Coach coach, int n) {
            miles = n;
            size = coach.size;
            limit = coach.limit;
            for (int mile = 0; mile < n; mile++) {
                for (int one = 0; one < size; one++) {
                    put(queasy, mile * MOST_PASSENGERS + one, coach.queasy(one, coach.mile + mile));
                }
            }
        }

        /** How often all are SICK, if they get off once behind the MILE stop (NONE: never). */
        int sick(int stop) {
            int sum = 0;
            fill(has, 0);
            fill(often, 0);
            fill(firsts, NONE);
            for (int mile = 0; mile < miles; mile++) {
                sum += sickIn(mile);
                if (mile == stop) {
                    fill(has, 0);
                }
            }
            return sum;
        }

        private int sickIn(int mile) {
            int sum = 0;
            for (int one = 0; one < size; one++) {
                int more = itemAt(has, one) + itemAt(queasy, mile * MOST_PASSENGERS + one);
                boolean isSick = more > limit;
                put(has, one, isSick ? 0 : more);
                if (isSick) {
                    sum++;
                    noteSick(one, mile);
                }
            }
            return sum;
        }

        private void noteSick(int one, int mile) {
            if (itemAt(often, one) == 0) {
                put(firsts, one, mile);
            }
            put(often, one, itemAt(often, one) + 1);
        }

        int firstSick() {
            int first = NONE;
            for (int one = 0; one < size; one++) {
                if (itemAt(often, one) > 0
                        && (first == NONE || itemAt(firsts, one) < itemAt(firsts, first))) {
                    first = one;
                }
            }
            return first;
        }
    }

    /** Some PASSENGERS that a Sheet tells, and the SEATS behind them; their orders are gone through. */
    static final class Hat {
        final int[] told;
        final int[] seats;
        /** Of each SEAT, the place of its PASSENGER among those told. */
        final int[] order;
        int size;
        int bestJoy;
        int bestDigits;

        Hat() {
            told = new int[MOST_DRAWN];
            seats = new int[MOST_DRAWN];
            order = new int[MOST_DRAWN];
        }

        /** Whether the Sheet is as told; if so, it is taken over. */
        boolean takes(Sheet sheet, Coach coach) {
            if (sheet.isMissing() || sheet.size % 2 != 0) {
                return false;
            }
            size = sheet.size / 2;
            if (size < 1 || size > MOST_DRAWN) {
                return false;
            }
            for (int i = 0; i < size; i++) {
                put(told, i, sheet.item(i));
                put(seats, i, sheet.item(size + i));
            }
            return isUnlike(told) && isUnlike(seats) && isAllThere(coach);
        }

        private boolean isUnlike(int[] row) {
            for (int i = 0; i < size; i++) {
                for (int j = 0; j < i; j++) {
                    if (itemAt(row, i) == itemAt(row, j)) {
                        return false;
                    }
                }
            }
            return true;
        }

        private boolean isAllThere(Coach coach) {
            for (int i = 0; i < size; i++) {
                int seat = itemAt(seats, i);
                if (!coach.has(itemAt(told, i)) || seat < 0 || seat >= SEATS) {
                    return false;
                }
                int sitter = coach.sitterAt(seat);
                if (sitter != NONE && !isTold(sitter)) {
                    return false;
                }
            }
            return true;
        }

        private boolean isTold(int one) {
            for (int i = 0; i < size; i++) {
                if (itemAt(told, i) == one) {
                    return true;
                }
            }
            return false;
        }

        /** Tries all orders, the least first; at most 6 * 5 * 4 * 3 * 2 = 720. */
        void seek(Coach thought) {
            for (int i = 0; i < size; i++) {
                put(order, i, i);
            }
            boolean more = true;
            for (int k = 0; k < 720 && more; k++) {
                seatAll(thought);
                int joy = thought.joy();
                if (k == 0 || joy > bestJoy) {
                    bestJoy = joy;
                    bestDigits = digits();
                }
                more = nextOrder();
            }
        }

        private void seatAll(Coach thought) {
            for (int i = 0; i < size; i++) {
                thought.move(itemAt(told, i), NONE);
            }
            for (int i = 0; i < size; i++) {
                thought.move(itemAt(told, itemAt(order, i)), itemAt(seats, i));
            }
        }

        private int digits() {
            int number = 0;
            for (int i = 0; i < size; i++) {
                number = number * 10 + itemAt(order, i) + 1;
            }
            return number;
        }

        /** The next greater order; false behind the last. */
        private boolean nextOrder() {
            int i = size - 2;
            while (i >= 0 && itemAt(order, i) > itemAt(order, i + 1)) {
                i--;
            }
            if (i < 0) {
                return false;
            }
            int j = size - 1;
            while (j > i && itemAt(order, j) < itemAt(order, i)) {
                j--;
            }
            swapPlaces(i, j);
            for (int left = i + 1, right = size - 1; left < right; left++, right--) {
                swapPlaces(left, right);
            }
            return true;
        }

        private void swapPlaces(int i, int j) {
            int was = itemAt(order, i);
            put(order, i, itemAt(order, j));
            put(order, j, was);
        }
    }

    /** A row of numbers of a sort, or missing. */
    static final class Sheet {
        int sort;
        int size;
        final int[] items;

        Sheet() {
            sort = NONE;
            size = 0;
            items = new int[MOST_ITEMS];
        }

        void become(int newSort, int newSize) {
            sort = newSort;
            size = newSize;
            fill(items, 0);
        }

        boolean isMissing() {
            return sort == NONE;
        }

        boolean has(int i) {
            return i >= 0 && i < size;
        }

        boolean hasRun(int i, int n) {
            return n >= 0 && i >= 0 && i <= size - n;
        }

        int item(int i) {
            return itemAt(items, i);
        }

        void write(int i, int v) {
            put(items, i, sort == BYTES ? (byte) v : sort == SHORTS ? (short) v : v);
        }
    }

    /** All TEXTS, as codes for a stack: what a ONE is comes ahead of what is done with it. */
    static final class Texts {
        /** No TEXT has more codes than bytes, so each has room for a whole TAPE of them. */
        final int[] codes;
        final int[] ends;
        final int[] stack;
        int size;
        int next;

        Texts() {
            codes = new int[MOST_TEXTS * TAPE];
            ends = new int[MOST_TEXTS * PARTS];
            stack = new int[TAPE];
            size = 0;
            next = 0;
        }

        void startDraft() {
            next = size * TAPE;
        }

        void add(int code) {
            put(codes, next, code);
            next++;
        }

        void endPart(int part) {
            put(ends, size * PARTS + part, next);
        }

        void keepDraft() {
            size++;
        }

        int value(int text, int part, int[] facts) {
            int at = text * PARTS + part;
            int from = part == 0 ? text * TAPE : itemAt(ends, at - 1);
            int to = itemAt(ends, at);
            int top = -1;
            for (int i = from; i < to; i++) {
                int code = itemAt(codes, i);
                if (code < ROW) {
                    top++;
                    put(stack, top, code);
                } else if (code <= FRIEND) {
                    top++;
                    put(stack, top, itemAt(facts, code - ROW));
                } else if (code == NOT) {
                    put(stack, top, itemAt(stack, top) == 0 ? 1 : 0);
                } else if (code == NEGATE) {
                    put(stack, top, -itemAt(stack, top));
                } else {
                    top--;
                    put(stack, top, joined(code, itemAt(stack, top), itemAt(stack, top + 1)));
                }
            }
            return itemAt(stack, 0);
        }

        private static int joined(int code, int a, int b) {
            switch (code) {
                case PLUS: return a + b;
                case MINUS: return a - b;
                case TIMES: return a * b;
                case LESS: return a < b ? 1 : 0;
                case SAME: return a == b ? 1 : 0;
                case OR: return a != 0 || b != 0 ? 1 : 0;
                case AND: return a != 0 && b != 0 ? 1 : 0;
                default: return 0;
            }
        }
    }

    /**
     * Reads THE TAPE. Behind a FAULT the TOKEN is STOPPED, which stands nowhere: so all that is
     * still open ends by itself, and the first FAULT stays. open: how many ( , not and - are open.
     */
    static final class Reader {
        final Texts texts;
        final int[] tape;
        int size;
        int place;
        int next;
        int token;
        int fault;

        Reader(Texts texts) {
            this.texts = texts;
            tape = new int[TAPE];
            size = 0;
            fault = NONE;
        }

        int append(int letter) {
            put(tape, size, letter);
            size++;
            return size;
        }

        /** THE TAPE is a TEXT and empty then: NONE, or the place of the FAULT. */
        int read() {
            next = 0;
            fault = NONE;
            texts.startDraft();
            advance();
            for (int part = 0; part < PARTS; part++) {
                expect(SOUNDS + part);
                readOr(0);
                expect(CLOSE);
                texts.endPart(part);
            }
            if (token != END) {
                fail();
            }
            if (fault == NONE) {
                texts.keepDraft();
            }
            size = 0;
            return fault;
        }

        private void readOr(int open) {
            readAnd(open);
            for (int k = 0; k < TAPE && token == OR; k++) {
                advance();
                readAnd(open);
                texts.add(OR);
            }
        }

        private void readAnd(int open) {
            readNot(open);
            for (int k = 0; k < TAPE && token == AND; k++) {
                advance();
                readNot(open);
                texts.add(AND);
            }
        }

        private void readNot(int open) {
            if (token == NOT) {
                if (opens(open)) {
                    readNot(open + 1);
                    texts.add(NOT);
                }
                return;
            }
            readSum(open);
            int sign = token;
            if (sign == LESS || sign == SAME) {
                advance();
                readSum(open);
                texts.add(sign);
            }
        }

        private void readSum(int open) {
            readTerm(open);
            for (int k = 0; k < TAPE && (token == PLUS || token == MINUS); k++) {
                int sign = token;
                advance();
                readTerm(open);
                texts.add(sign);
            }
        }

        private void readTerm(int open) {
            readOne(open);
            for (int k = 0; k < TAPE && token == TIMES; k++) {
                advance();
                readOne(open);
                texts.add(TIMES);
            }
        }

        private void readOne(int open) {
            if (token >= 0 && token <= FRIEND) {
                texts.add(token);
                advance();
            } else if (token == MINUS) {
                if (opens(open)) {
                    readOne(open + 1);
                    texts.add(NEGATE);
                }
            } else if (token == LEFT) {
                if (opens(open)) {
                    readOr(open + 1);
                    expect(RIGHT);
                }
            } else {
                fail();
            }
        }

        /** Goes past a ( , not or - if one more may be open. */
        private boolean opens(int open) {
            if (open >= MOST_OPEN) {
                fail();
                return false;
            }
            advance();
            return true;
        }

        private void expect(int due) {
            if (token == due) {
                advance();
            } else {
                fail();
            }
        }

        private void fail() {
            if (fault == NONE) {
                fault = place;
            }
            token = STOPPED;
        }

        private void advance() {
            while (next < size && isBlank(byteAt(next))) {
                next++;
            }
            place = next;
            int first = byteAt(next);
            if (first == NONE) {
                token = END;
            } else if (isLetter(first)) {
                advanceWord();
            } else if (isDigit(first)) {
                advanceNumber();
            } else {
                advanceSign(first);
            }
        }

        private void advanceWord() {
            while (next < size && isLetter(byteAt(next))) {
                next++;
            }
            for (int word = ROW; word <= NOT; word++) {
                if (isWord(spelling(word))) {
                    token = word;
                    return;
                }
            }
            fail();
        }

        private boolean isWord(String word) {
            if (word.length() != next - place) {
                return false;
            }
            for (int i = 0; i < word.length(); i++) {
                if (word.charAt(i) != byteAt(place + i)) {
                    return false;
                }
            }
            return true;
        }

        private static String spelling(int word) {
            switch (word) {
                case ROW: return "row";
                case COLUMN: return "column";
                case MILE: return "mile";
                case NUMBER: return "number";
                case BESIDE: return "beside";
                case FRIEND: return "friend";
                case SOUNDS: return "sounds";
                case TURNS: return "turns";
                case JOYS: return "joys";
                case OR: return "or";
                case AND: return "and";
                default: return "not";
            }
        }

        private void advanceNumber() {
            int number = 0;
            while (next < size && isDigit(byteAt(next))) {
                number = number * 10 + byteAt(next) - '0';
                next++;
            }
            token = number;
            if (next - place > MOST_DIGITS) {
                fail();
            }
        }

        private void advanceSign(int first) {
            next++;
            switch (first) {
                case '(': case ')': case ';': case '+': case '-': case '*': case '<': case '=':
                    token = SIGN + first;
                    break;
                default:
                    fail();
            }
        }

        private int byteAt(int i) {
            return i >= 0 && i < size && i < tape.length ? tape[i] : NONE;
        }

        private static boolean isBlank(int b) {
            return b == 32 || b == 10;
        }

        private static boolean isLetter(int b) {
            return b >= 'a' && b <= 'z';
        }

        private static boolean isDigit(int b) {
            return b >= '0' && b <= '9';
        }
    }
}
