/** The wind's lawyer: an island of users of the wind, what they owe it, and what it sues for. */
public final class WindLawyer {
    public static final int NONE = -1, BAD = -2, NO = -3, FULL = -4;

    private static final int CELLS = 12;
    private static final int DAY = 8;
    private static final int LAST_HOUR = 9999;
    private static final int MOST_STRENGTH = 20;
    private static final int MOST_HEIGHT = 4;
    private static final int MOST_HOURS_AT_ONCE = 99;
    private static final int MOST_CALM = 23;
    private static final int MOST_USERS = 7;
    private static final int MOST_SUITS = 5;
    private static final int MOST_READINGS = 4;
    private static final int MOST_NOTES = 6;
    private static final int MOST_MARKS = 6;
    private static final int MOST_UNDONE = 8;
    private static final int MOST_BYTES = 150;
    private static final int KINDS = 6;
    private static final int EVERYONE = 127;
    private static final int READ_FAULT = -10;
    private static final int NOT_SO_MANY = -5;
    private static final int BAD_PLACE_IN_COURT = -10;

    // The columns of the tables stand in the order in which the digest goes through them.
    private static final int USER_KIND = 0, USER_CELL = 1, USER_HEIGHT = 2, USER_DUES = 3, USER_COLUMNS = 4;
    private static final int SUIT_KIND = 0, SUIT_USER = 1, SUIT_HOUR = 2, SUIT_HEARD = 3, SUIT_COLUMNS = 4;
    private static final int READING_HOUR = 0, READING_CELL = 1, READING_LEFT = 2, READING_COLUMNS = 3;
    private static final int NOTE_USER = 0, NOTE_HEIGHT = 1, NOTE_WIND = 2, NOTE_TAKEN = 3, NOTE_RENT = 4, NOTE_COLUMNS = 5;
    private static final int MARK_SUIT = 0, MARK_DUES = 1, MARK_AGE = 2, MARK_AWARD = 3, MARK_COLUMNS = 4;
    private static final int PAST_HOUR = 0, PAST_WON = 1, PAST_SUITS = 2, PAST_DUES = 3;
    private static final int PAST_HEARD = PAST_DUES + MOST_USERS, PAST_COLUMNS = PAST_HEARD + MOST_SUITS;

    private static final int[] FACTORIALS = {1, 1, 2, 6, 24, 120, 720, 5040};

    private final Island now = new Island();
    private final Island firstImage = new Island();
    private final Island secondImage = new Island();
    private boolean firstKept;
    private boolean secondKept;
    private final Text text = new Text();
    private final Blow blow = new Blow();
    private final Reader reader = new Reader(text, blow);
    private final Forecast forecast = new Forecast(blow);
    private final Session session = new Session();
    private final Evidence evidence = new Evidence(blow);
    private final Fraction fraction = new Fraction();
    private int refusedBad;
    private int refusedNo;
    private int refusedFull;

    public WindLawyer() {
    }

    // ---- an island.

    public int island() {
        int users = now.users.size;
        now.reset();
        return users;
    }

    public int wind(int h, int strength, int side) {
        if (!isHourOfDay(h) || !within(strength, 0, MOST_STRENGTH) || !within(side, 0, 1)) {
            return refuse(BAD);
        }
        int before = 10 * now.strengths[h] + now.sides[h];
        now.tellWind(h, strength, side);
        return before;
    }

    public int user(int kind, int cell, int height) {
        if (!isKind(kind) || !isCell(cell) || !isHeight(height)) {
            return refuse(BAD);
        }
        return now.users.isFull() ? refuse(FULL) : now.addUser(kind, cell, height);
    }

    public int type(int c) {
        if (!within(c, 0, 127)) {
            return refuse(BAD);
        }
        return text.isFull() ? refuse(FULL) : text.add(c);
    }

    public int clear() {
        int bytes = text.size;
        text.size = 0;
        return bytes;
    }

    public int read() {
        int items = reader.parse();
        if (items >= 0) {
            now.copyFrom(reader.island);
        }
        return items;
    }

    // ---- hours.

    public int hour(int n) {
        if (!within(n, 1, MOST_HOURS_AT_ONCE)) {
            return refuse(BAD);
        }
        now.remember();
        return now.passHours(n, blow);
    }

    public int suit(int kind, int u) {
        if (!isKind(kind) || !isUser(u)) {
            return refuse(BAD);
        }
        if (now.suits.isFull()) {
            return refuse(FULL);
        }
        now.remember();
        return now.fileSuit(kind, u);
    }

    public int hears(int s) {
        if (!isSuit(s)) {
            return refuse(BAD);
        }
        if (now.isHeard(s)) {
            return refuse(NO);
        }
        now.remember();
        return now.hearSuit(s);
    }

    public int pays(int u) {
        if (!isUser(u)) {
            return refuse(BAD);
        }
        now.remember();
        int dues = now.duesOf(u);
        now.users.put(u, USER_DUES, 0);
        return dues;
    }

    public int undo() {
        if (now.past.size == 0) {
            return refuse(NO);
        }
        now.takeBack();
        return now.hour;
    }

    public int of(int u, int what) {
        return isUser(u) && within(what, USER_KIND, USER_DUES) ? now.users.at(u, what) : refuse(BAD);
    }

    public int about(int s, int what) {
        return isSuit(s) && within(what, SUIT_KIND, SUIT_HEARD) ? now.suits.at(s, what) : refuse(BAD);
    }

    // ---- wind.

    public int blows(int c, int h, int what) {
        if (!isCell(c) || !isHourOfDay(h) || !within(what, 0, 1)) {
            return refuse(BAD);
        }
        blow.goInHour(now, h, EVERYONE);
        return what == 0 ? blow.ahead[c] : blow.behind[c];
    }

    public int takes(int u, int h) {
        if (!isUser(u) || !isHourOfDay(h)) {
            return refuse(BAD);
        }
        blow.goInHour(now, h, EVERYONE);
        return blow.takenBy(u);
    }

    public int then(int u, int m) {
        return isUser(u) && within(m, 0, 99) ? forecast.duesBehind(now, u, m) : refuse(BAD);
    }

    public int calm(int u) {
        return isUser(u) ? forecast.firstCalm(now, u) : refuse(BAD);
    }

    public int place(int kind, int height, int what) {
        if (!isKind(kind) || !isHeight(height) || !within(what, 0, 1)) {
            return refuse(BAD);
        }
        if (now.users.isFull()) {
            return refuse(FULL);
        }
        forecast.findPlace(now, kind, height);
        return what == 0 ? forecast.bestCell : forecast.leastLoss;
    }

    public int share(int u) {
        if (!isUser(u)) {
            return refuse(BAD);
        }
        fraction.set(forecast.sumOverOrders(now, u), factorial(now.users.size));
        return 1;
    }

    // ---- suits.

    public int award(int s) {
        return isSuit(s) ? now.awardNow(s) : refuse(BAD);
    }

    public int court(int i) {
        if (i < NONE) {
            refuse(BAD);
            return BAD_PLACE_IN_COURT;
        }
        session.findBestOrder(now);
        if (i == NONE) {
            return session.most;
        }
        return i < session.length ? session.best[i] : NOT_SO_MANY;
    }

    public int settle() {
        int bits = 0;
        for (int s = 0; s < now.suits.size; s++) {
            if (now.awardNow(s) >= 10) {
                bits |= 1 << s;
            }
        }
        return bits;
    }

    // ---- who stood there.

    public int reading(int h, int c, int x) {
        if (!isHourOfDay(h) || !isCell(c) || !within(x, 0, MOST_STRENGTH)) {
            return refuse(BAD);
        }
        return now.readings.isFull() ? refuse(FULL) : now.addReading(h, c, x);
    }

    public int stood(int what) {
        if (!within(what, 0, 2)) {
            return refuse(BAD);
        }
        evidence.findSets(now);
        if (what == 0) {
            return evidence.sets;
        }
        return what == 1 ? evidence.inAll : evidence.inSome;
    }

    public int note(int u, int h, int s, int t, int r) {
        if (!isUser(u) || !isHeight(h) || !within(s, 0, MOST_STRENGTH)) {
            return refuse(BAD);
        }
        if (!within(t, 0, MOST_STRENGTH) || !within(r, 0, 200)) {
            return refuse(BAD);
        }
        return now.notes.isFull() ? refuse(FULL) : now.addNote(u, h, s, t, r);
    }

    public int mark(int s, int d, int a, int x) {
        if (!isSuit(s) || !within(d, 0, 200) || !within(a, 0, 99) || !within(x, 0, 999)) {
            return refuse(BAD);
        }
        return now.marks.isFull() ? refuse(FULL) : now.addMark(s, d, a, x);
    }

    public int forget(int what) {
        if (!within(what, 0, 2)) {
            return refuse(BAD);
        }
        if (what == 0) {
            return now.readings.empty();
        }
        return what == 1 ? now.notes.empty() : now.marks.empty();
    }

    public int is(int u) {
        return isUser(u) ? evidence.userKinds(now, u) : refuse(BAD);
    }

    public int look(int u) {
        return isUser(u) ? evidence.nextWind(now, u) : refuse(BAD);
    }

    public int kinds(int s) {
        return isSuit(s) ? evidence.suitKinds(now, s) : refuse(BAD);
    }

    public int tries(int s) {
        return isSuit(s) ? evidence.nextTry(now, s) : refuse(BAD);
    }

    public int parties(int s) {
        if (!isSuit(s)) {
            return refuse(BAD);
        }
        if (now.isHeard(s)) {
            return refuse(NO);
        }
        return Parties.restingPairs(now.duesOf(now.suits.at(s, SUIT_USER)), now.awardNow(s));
    }

    public int calms(int u, int n, int c) {
        if (!isUser(u) || !within(n, 0, DAY) || !within(c, 0, 10)) {
            return refuse(BAD);
        }
        fraction.set((long) forecast.takenInNext(now, u, n) * (10 - c), 10);
        return 1;
    }

    public int years(int seed, int n) {
        return within(seed, 0, 999999) && within(n, 0, 60) ? forecast.rentBySeed(now, seed, n) : refuse(BAD);
    }

    // ---- what there is.

    public long part(int what) {
        if (!within(what, 0, 1)) {
            return refuse(BAD);
        }
        return what == 0 ? fraction.above : fraction.below;
    }

    public int image(int i) {
        if (!within(i, 0, 1)) {
            return refuse(BAD);
        }
        if (i == 0) {
            firstImage.copyFrom(now);
            firstKept = true;
        } else {
            secondImage.copyFrom(now);
            secondKept = true;
        }
        return 1;
    }

    public int from(int i) {
        if (!within(i, 0, 1)) {
            return refuse(BAD);
        }
        boolean kept = i == 0 ? firstKept : secondKept;
        if (!kept) {
            return refuse(NO);
        }
        now.copyFrom(i == 0 ? firstImage : secondImage);
        return 1;
    }

    public int status(int what) {
        switch (what) {
            case 0: return refusedBad;
            case 1: return refusedNo;
            case 2: return refusedFull;
            default:
                refuse(BAD);
                return NONE;
        }
    }

    public int count(int what) {
        return within(what, 0, 9) ? howMany(what) : refuse(BAD);
    }

    public long digest() {
        long h = 1493;
        for (int what = 0; what < 10; what++) {
            h = 31 * h + howMany(what);
        }
        for (int i = 0; i < DAY; i++) {
            h = 31 * h + now.strengths[i];
            h = 31 * h + now.sides[i];
        }
        h = now.users.digestBehind(h);
        h = now.suits.digestBehind(h);
        h = now.readings.digestBehind(h);
        h = now.notes.digestBehind(h);
        h = now.marks.digestBehind(h);
        h = 31 * h + fraction.above;
        return 31 * h + fraction.below;
    }

    private int howMany(int what) {
        switch (what) {
            case 0: return now.users.size;
            case 1: return now.suits.size;
            case 2: return now.hour;
            case 3: return now.duesOfAll();
            case 4: return now.won;
            case 5: return now.readings.size;
            case 6: return now.notes.size;
            case 7: return now.marks.size;
            case 8: return now.past.size;
            case 9: return text.size;
            default: return 0;
        }
    }

    private int refuse(int reason) {
        if (reason == BAD) {
            refusedBad++;
        } else if (reason == NO) {
            refusedNo++;
        } else {
            refusedFull++;
        }
        return reason;
    }

    private boolean isUser(int u) {
        return within(u, 0, now.users.size - 1);
    }

    private boolean isSuit(int s) {
        return within(s, 0, now.suits.size - 1);
    }

    private static boolean isKind(int kind) {
        return within(kind, 0, KINDS - 1);
    }

    private static boolean isCell(int c) {
        return within(c, 0, CELLS - 1);
    }

    private static boolean isHeight(int h) {
        return within(h, 1, MOST_HEIGHT);
    }

    private static boolean isHourOfDay(int h) {
        return within(h, 0, DAY - 1);
    }

    private static boolean within(int x, int least, int most) {
        return x >= least && x <= most;
    }

    private static int factorial(int n) {
        return within(n, 0, FACTORIALS.length - 1) ? FACTORIALS[n] : 1;
    }

    /** Rows of numbers, as they come, up to a limit. */
    private static final class Table {
        final int width;
        final int limit;
        final int[] cells;
        int size;

        Table(int limit, int width) {
            this.limit = limit;
            this.width = width;
            cells = new int[limit * width];
        }

        boolean isFull() {
            return size >= limit;
        }

        int at(int row, int column) {
            if (row < 0 || row >= size || column < 0 || column >= width) {
                return 0;
            }
            return cells[row * width + column];
        }

        void put(int row, int column, int value) {
            if (row >= 0 && row < size && column >= 0 && column < width) {
                cells[row * width + column] = value;
            }
        }

        /** Makes a row of zeros behind the others: its number, or NONE if there is no room. */
        int open() {
            if (isFull()) {
                return NONE;
            }
            int row = size;
            size++;
            for (int column = 0; column < width; column++) {
                put(row, column, 0);
            }
            return row;
        }

        void dropFirst() {
            if (size > 0) {
                System.arraycopy(cells, width, cells, 0, (size - 1) * width);
                size--;
            }
        }

        int empty() {
            int before = size;
            size = 0;
            return before;
        }

        void copyFrom(Table other) {
            if (other.cells.length == cells.length) {
                System.arraycopy(other.cells, 0, cells, 0, cells.length);
                size = other.size;
            }
        }

        long digestBehind(long before) {
            long h = before;
            for (int row = 0; row < size; row++) {
                for (int column = 0; column < width; column++) {
                    h = 31 * h + at(row, column);
                }
            }
            return h;
        }
    }

    /** All that an image keeps. */
    private static final class Island {
        final int[] strengths = new int[DAY];
        final int[] sides = new int[DAY];
        final Table users = new Table(MOST_USERS, USER_COLUMNS);
        final Table suits = new Table(MOST_SUITS, SUIT_COLUMNS);
        final Table readings = new Table(MOST_READINGS, READING_COLUMNS);
        final Table notes = new Table(MOST_NOTES, NOTE_COLUMNS);
        final Table marks = new Table(MOST_MARKS, MARK_COLUMNS);
        final Table past = new Table(MOST_UNDONE, PAST_COLUMNS);
        int hour;
        int won;

        void reset() {
            for (int h = 0; h < DAY; h++) {
                strengths[h] = 0;
                sides[h] = 0;
            }
            users.empty();
            suits.empty();
            readings.empty();
            notes.empty();
            marks.empty();
            past.empty();
            hour = 0;
            won = 0;
        }

        void copyFrom(Island other) {
            System.arraycopy(other.strengths, 0, strengths, 0, DAY);
            System.arraycopy(other.sides, 0, sides, 0, DAY);
            users.copyFrom(other.users);
            suits.copyFrom(other.suits);
            readings.copyFrom(other.readings);
            notes.copyFrom(other.notes);
            marks.copyFrom(other.marks);
            past.copyFrom(other.past);
            hour = other.hour;
            won = other.won;
        }

        void tellWind(int h, int strength, int side) {
            if (isHourOfDay(h)) {
                strengths[h] = strength;
                sides[h] = side;
            }
            past.empty();
        }

        int addUser(int kind, int cell, int height) {
            int u = users.open();
            users.put(u, USER_KIND, kind);
            users.put(u, USER_CELL, cell);
            users.put(u, USER_HEIGHT, height);
            past.empty();
            return u;
        }

        int fileSuit(int kind, int u) {
            int s = suits.open();
            suits.put(s, SUIT_KIND, kind);
            suits.put(s, SUIT_USER, u);
            suits.put(s, SUIT_HOUR, hour);
            return s;
        }

        int addReading(int h, int c, int x) {
            int row = readings.open();
            readings.put(row, READING_HOUR, h);
            readings.put(row, READING_CELL, c);
            readings.put(row, READING_LEFT, x);
            return readings.size;
        }

        int addNote(int u, int h, int s, int t, int r) {
            int row = notes.open();
            notes.put(row, NOTE_USER, u);
            notes.put(row, NOTE_HEIGHT, h);
            notes.put(row, NOTE_WIND, s);
            notes.put(row, NOTE_TAKEN, t);
            notes.put(row, NOTE_RENT, r);
            return notes.size;
        }

        int addMark(int s, int d, int a, int x) {
            int row = marks.open();
            marks.put(row, MARK_SUIT, s);
            marks.put(row, MARK_DUES, d);
            marks.put(row, MARK_AGE, a);
            marks.put(row, MARK_AWARD, x);
            return marks.size;
        }

        int passHours(int n, Blow blow) {
            int rents = 0;
            for (int i = 0; i < n && hour < LAST_HOUR; i++) {
                blow.goInHour(this, hour, EVERYONE);
                for (int u = 0; u < users.size; u++) {
                    int rent = blow.rentOf(users, u);
                    users.put(u, USER_DUES, users.at(u, USER_DUES) + rent);
                    rents += rent;
                }
                hour++;
            }
            return rents;
        }

        int hearSuit(int s) {
            int award = awardNow(s);
            won += award;
            users.put(suits.at(s, SUIT_USER), USER_DUES, 0);
            suits.put(s, SUIT_HEARD, 1);
            return award;
        }

        boolean isHeard(int s) {
            return suits.at(s, SUIT_HEARD) == 1;
        }

        int awardNow(int s) {
            if (isHeard(s)) {
                return 0;
            }
            return Kinds.awardOf(suits.at(s, SUIT_KIND), duesOf(suits.at(s, SUIT_USER)), hour - suits.at(s, SUIT_HOUR));
        }

        int duesOf(int u) {
            return users.at(u, USER_DUES);
        }

        int duesOfAll() {
            int sum = 0;
            for (int u = 0; u < users.size; u++) {
                sum += duesOf(u);
            }
            return sum;
        }

        // A suit's kind, user and hour never change and suits only come behind others,
        // so their number and who is heard tell which suits there were.
        void remember() {
            if (past.isFull()) {
                past.dropFirst();
            }
            int row = past.open();
            past.put(row, PAST_HOUR, hour);
            past.put(row, PAST_WON, won);
            past.put(row, PAST_SUITS, suits.size);
            for (int u = 0; u < users.size; u++) {
                past.put(row, PAST_DUES + u, duesOf(u));
            }
            for (int s = 0; s < suits.size; s++) {
                past.put(row, PAST_HEARD + s, suits.at(s, SUIT_HEARD));
            }
        }

        void takeBack() {
            int row = past.size - 1;
            hour = past.at(row, PAST_HOUR);
            won = past.at(row, PAST_WON);
            suits.size = past.at(row, PAST_SUITS);
            for (int u = 0; u < users.size; u++) {
                users.put(u, USER_DUES, past.at(row, PAST_DUES + u));
            }
            for (int s = 0; s < suits.size; s++) {
                suits.put(s, SUIT_HEARD, past.at(row, PAST_HEARD + s));
            }
            past.size = Math.max(row, 0);
        }
    }

    /** What a user takes and owes by its kind, what is awarded by a suit's kind. */
    private static final class Kinds {
        private static final int MILL = 0, SAIL = 1, KITE = 2, WASHING = 3, CLIPPER = 4, CHURCH = 5;
        private static final int PLAIN = 0, THEFT = 1, DAMAGE = 2, WILL = 3, FORGOTTEN = 4, SHUTTER = 5;

        private Kinds() {
        }

        static int takenOf(int kind, int height, int s) {
            int mill = (s + 2) / 3;
            int sail = mill / 2;
            int kite = Math.min(mill, height);
            switch (kind) {
                case MILL: return mill;
                case SAIL: return sail;
                case KITE: return kite;
                case WASHING: return s >= 1 ? 1 : 0;
                case CLIPPER: return Math.min(sail + height, s);
                case CHURCH: return Math.min(2 * kite, s);
                default: return 0;
            }
        }

        static int rentOf(int kind, int t) {
            int mill = 3 * t;
            int kite = t >= 1 ? mill + 1 : mill;
            switch (kind) {
                case MILL: return mill;
                case SAIL: return mill;
                case KITE: return kite;
                case WASHING: return 0;
                case CLIPPER: return 2 * mill;
                case CHURCH: return kite;
                default: return 0;
            }
        }

        static int awardOf(int kind, int dues, int age) {
            int theft = 2 * dues;
            int damage = dues + age;
            switch (kind) {
                case PLAIN: return dues;
                case THEFT: return theft;
                case DAMAGE: return damage;
                case WILL: return (dues + 1) / 2;
                case FORGOTTEN: return age < 8 ? 0 : 2 * damage;
                case SHUTTER: return Math.min(theft, 40);
                default: return 0;
            }
        }
    }

    /** One blow over the island; the rows are used again by each blow. */
    private static final class Blow {
        final int[] ahead = new int[CELLS];
        final int[] behind = new int[CELLS];
        final int[] taken = new int[MOST_USERS];

        void goInHour(Island island, int hour, int standing) {
            int h = Math.floorMod(hour, DAY);
            go(island.users, standing, island.strengths[h], island.sides[h]);
        }

        /** Only users whose bit is in standing are there. */
        void go(Table users, int standing, int strength, int side) {
            int present = Math.min(users.size, MOST_USERS);
            int occupied = 0;
            for (int u = 0; u < MOST_USERS; u++) {
                taken[u] = 0;
                if (u < present && (standing >> u & 1) == 1) {
                    occupied |= 1 << users.at(u, USER_CELL);
                }
            }
            int s = strength;
            for (int step = 0; step < CELLS; step++) {
                int c = side == 0 ? step : CELLS - 1 - step;
                ahead[c] = s;
                // Most cells are empty, and some questions ask for a thousand blows.
                int asked = (occupied >> c & 1) == 1 ? present : 0;
                for (int u = 0; u < asked; u++) {
                    if ((standing >> u & 1) == 1 && users.at(u, USER_CELL) == c) {
                        taken[u] = Kinds.takenOf(users.at(u, USER_KIND), users.at(u, USER_HEIGHT), s);
                        s -= taken[u];
                    }
                }
                behind[c] = s;
                s = Math.min(s + 1, strength);
            }
        }

        int takenBy(int u) {
            return within(u, 0, MOST_USERS - 1) ? taken[u] : 0;
        }

        int leftBehind(int c) {
            return isCell(c) ? behind[c] : 0;
        }

        int rentOf(Table users, int u) {
            return Kinds.rentOf(users.at(u, USER_KIND), takenBy(u));
        }

        int rentOfAll(Table users) {
            int sum = 0;
            for (int u = 0; u < users.size; u++) {
                sum += rentOf(users, u);
            }
            return sum;
        }

        int takenByFirst(int users) {
            int sum = 0;
            for (int u = 0; u < users; u++) {
                sum += takenBy(u);
            }
            return sum;
        }
    }

    /** What would be, by hours to come and by users who come or stay away. */
    private static final class Forecast {
        final Blow blow;
        final Table guests = new Table(MOST_USERS, USER_COLUMNS);
        final int[] totals = new int[EVERYONE + 1];
        int bestCell;
        int leastLoss;

        Forecast(Blow blow) {
            this.blow = blow;
        }

        int duesBehind(Island island, int u, int m) {
            int dues = island.duesOf(u);
            for (int i = 0; i < m; i++) {
                blow.goInHour(island, island.hour + i, EVERYONE);
                dues += blow.rentOf(island.users, u);
            }
            return dues;
        }

        int firstCalm(Island island, int u) {
            for (int i = 0; i <= MOST_CALM; i++) {
                blow.goInHour(island, island.hour + i, EVERYONE);
                if (blow.takenBy(u) == 0) {
                    return i;
                }
            }
            return NONE;
        }

        int takenInNext(Island island, int u, int n) {
            int sum = 0;
            for (int i = 0; i < n; i++) {
                blow.goInHour(island, island.hour + i, EVERYONE);
                sum += blow.takenBy(u);
            }
            return sum;
        }

        void findPlace(Island island, int kind, int height) {
            int others = island.users.size;
            int without = takenInDay(island, island.users, EVERYONE, others);
            guests.copyFrom(island.users);
            int guest = guests.open();
            guests.put(guest, USER_KIND, kind);
            guests.put(guest, USER_HEIGHT, height);
            for (int c = 0; c < CELLS; c++) {
                guests.put(guest, USER_CELL, c);
                int loss = Math.max(without - takenInDay(island, guests, EVERYONE, others), 0);
                if (c == 0 || loss < leastLoss) {
                    bestCell = c;
                    leastLoss = loss;
                }
            }
        }

        /** What a user's coming adds, summed over all orders of all users. */
        long sumOverOrders(Island island, int u) {
            int n = island.users.size;
            int sets = Math.min(1 << n, totals.length);
            for (int set = 0; set < sets; set++) {
                totals[set] = takenInDay(island, island.users, set, n);
            }
            long sum = 0;
            for (int set = 0; set < sets; set++) {
                int with = set | 1 << u;
                if (with != set && with < sets) {
                    int ahead = Integer.bitCount(set);
                    long orders = (long) factorial(ahead) * factorial(n - 1 - ahead);
                    sum += orders * (totals[with] - totals[set]);
                }
            }
            return sum;
        }

        private int takenInDay(Island island, Table users, int standing, int counted) {
            int sum = 0;
            for (int h = 0; h < DAY; h++) {
                blow.go(users, standing, island.strengths[h], island.sides[h]);
                sum += blow.takenByFirst(counted);
            }
            return sum;
        }

        int rentBySeed(Island island, int seed, int n) {
            long x = seed;
            int rents = 0;
            for (int i = 0; i < n; i++) {
                x = (x * 1103515245L + 12345L) % 2147483648L;
                int strength = (int) (x / 65536 % 21);
                int side = (int) (x / 1048576 % 2);
                blow.go(island.users, EVERYONE, strength, side);
                rents += blow.rentOfAll(island.users);
            }
            return rents;
        }
    }

    /** The court's day: in which order the suits not yet heard win most. */
    private static final class Session {
        private static final int MOST_ORDERS = 120;

        final int[] order = new int[MOST_SUITS];
        final int[] best = new int[MOST_SUITS];
        int length;
        int most;

        void findBestOrder(Island island) {
            length = 0;
            for (int s = 0; s < island.suits.size && length < MOST_SUITS; s++) {
                if (!island.isHeard(s)) {
                    order[length] = s;
                    length++;
                }
            }
            most = NONE;
            for (int i = 0; i < MOST_ORDERS; i++) {
                int won = wonInOrder(island);
                // Orders come rising, so of like ones the first stays.
                if (won > most) {
                    most = won;
                    System.arraycopy(order, 0, best, 0, length);
                }
                if (!goToNextOrder()) {
                    break;
                }
            }
        }

        private int wonInOrder(Island island) {
            int won = 0;
            int usersHeard = 0;
            for (int i = 0; i < length; i++) {
                int s = order[i];
                int u = island.suits.at(s, SUIT_USER);
                int dues = (usersHeard >> u & 1) == 1 ? 0 : island.duesOf(u);
                int age = island.hour + i - island.suits.at(s, SUIT_HOUR);
                won += Kinds.awardOf(island.suits.at(s, SUIT_KIND), dues, age);
                usersHeard |= 1 << u;
            }
            return won;
        }

        private boolean goToNextOrder() {
            int left = length - 2;
            while (left >= 0 && order[left] > order[left + 1]) {
                left--;
            }
            if (left < 0) {
                return false;
            }
            int right = length - 1;
            while (right > left && order[right] < order[left]) {
                right--;
            }
            swap(left, right);
            int low = left + 1;
            for (int high = length - 1; low < high; high--) {
                swap(low, high);
                low++;
            }
            return true;
        }

        private void swap(int i, int j) {
            int kept = order[i];
            order[i] = order[j];
            order[j] = kept;
        }
    }

    /** What the readings, notes and marks leave possible, and what to look at next. */
    private static final class Evidence {
        final Blow blow;
        final int[] answers = new int[KINDS];
        int sets;
        int inAll;
        int inSome;

        Evidence(Blow blow) {
            this.blow = blow;
        }

        void findSets(Island island) {
            sets = 0;
            inAll = NONE;
            inSome = 0;
            for (int set = 0; set < 1 << island.users.size; set++) {
                if (fitsReadings(island, set)) {
                    sets++;
                    // NONE has every bit set, so the first set found stays whole.
                    inAll &= set;
                    inSome |= set;
                }
            }
        }

        private boolean fitsReadings(Island island, int set) {
            for (int i = 0; i < island.readings.size; i++) {
                blow.goInHour(island, island.readings.at(i, READING_HOUR), set);
                if (blow.leftBehind(island.readings.at(i, READING_CELL)) != island.readings.at(i, READING_LEFT)) {
                    return false;
                }
            }
            return true;
        }

        int userKinds(Island island, int u) {
            int bits = 0;
            for (int kind = 0; kind < KINDS; kind++) {
                if (fitsNotes(island.notes, u, kind)) {
                    bits |= 1 << kind;
                }
            }
            return bits;
        }

        private static boolean fitsNotes(Table notes, int u, int kind) {
            for (int i = 0; i < notes.size; i++) {
                if (notes.at(i, NOTE_USER) == u) {
                    int t = Kinds.takenOf(kind, notes.at(i, NOTE_HEIGHT), notes.at(i, NOTE_WIND));
                    if (t != notes.at(i, NOTE_TAKEN) || Kinds.rentOf(kind, t) != notes.at(i, NOTE_RENT)) {
                        return false;
                    }
                }
            }
            return true;
        }

        int nextWind(Island island, int u) {
            int possible = userKinds(island, u);
            int height = island.users.at(u, USER_HEIGHT);
            int fewest = KINDS + 1;
            int found = NONE;
            for (int s = 0; s <= MOST_STRENGTH && possible != 0; s++) {
                for (int kind = 0; kind < KINDS; kind++) {
                    int t = Kinds.takenOf(kind, height, s);
                    // Rents stay far below 1000, so this number tells taken and rent apart.
                    answers[kind] = 1000 * t + Kinds.rentOf(kind, t);
                }
                int alike = mostAlike(possible);
                if (alike < fewest) {
                    fewest = alike;
                    found = s;
                }
            }
            return found;
        }

        int suitKinds(Island island, int s) {
            int bits = 0;
            for (int kind = 0; kind < KINDS; kind++) {
                if (fitsMarks(island.marks, s, kind)) {
                    bits |= 1 << kind;
                }
            }
            return bits;
        }

        private static boolean fitsMarks(Table marks, int s, int kind) {
            for (int i = 0; i < marks.size; i++) {
                if (marks.at(i, MARK_SUIT) == s) {
                    int award = Kinds.awardOf(kind, marks.at(i, MARK_DUES), marks.at(i, MARK_AGE));
                    if (award != marks.at(i, MARK_AWARD)) {
                        return false;
                    }
                }
            }
            return true;
        }

        int nextTry(Island island, int s) {
            int possible = suitKinds(island, s);
            int fewest = KINDS + 1;
            int found = NONE;
            // A try is 10 d and a, d to 30, a to 9, so its number tells both.
            for (int number = 0; number < 310 && possible != 0; number++) {
                for (int kind = 0; kind < KINDS; kind++) {
                    answers[kind] = Kinds.awardOf(kind, number / 10, number % 10);
                }
                int alike = mostAlike(possible);
                if (alike < fewest) {
                    fewest = alike;
                    found = number;
                }
            }
            return found;
        }

        /** How many the largest group of the possible kinds with like answers has. */
        private int mostAlike(int possible) {
            int most = 0;
            for (int kind = 0; kind < KINDS; kind++) {
                int alike = 0;
                for (int other = 0; other < KINDS; other++) {
                    if ((possible >> kind & possible >> other & 1) == 1 && answers[kind] == answers[other]) {
                        alike++;
                    }
                }
                most = Math.max(most, alike);
            }
            return most;
        }
    }

    /** The wind, which sues or not, and the user, who pays first or not. */
    private static final class Parties {
        private static final int COST_OF_SUING = 5;

        private Parties() {
        }

        static int restingPairs(int dues, int award) {
            int bits = 0;
            for (int pair = 0; pair < 4; pair++) {
                int suing = pair & 1;
                int paying = pair >> 1;
                int got = toWind(suing, paying, dues, award);
                boolean windRests = got >= toWind(1 - suing, paying, dues, award);
                // The user gets 0 less that, so it rests where the wind would get no less.
                boolean userRests = got <= toWind(suing, 1 - paying, dues, award);
                if (windRests && userRests) {
                    bits |= 1 << pair;
                }
            }
            return bits;
        }

        private static int toWind(int suing, int paying, int dues, int award) {
            int unpaid = suing == 1 ? award : 0;
            return (paying == 1 ? dues : unpaid) - COST_OF_SUING * suing;
        }
    }

    /** A fraction in lowest terms, below above 0. */
    private static final class Fraction {
        private static final int MOST_STEPS = 100;

        long above = 0;
        long below = 1;

        void set(long top, long bottom) {
            long common = greatestDivisor(Math.abs(top), bottom);
            if (common > 0) {
                above = top / common;
                below = bottom / common;
            }
        }

        private static long greatestDivisor(long a, long b) {
            long large = a;
            long small = b;
            for (int i = 0; i < MOST_STEPS && small != 0; i++) {
                long rest = large % small;
                large = small;
                small = rest;
            }
            return large;
        }
    }

    /** The text that is typed. */
    private static final class Text {
        final int[] bytes = new int[MOST_BYTES];
        int size;

        boolean isFull() {
            return size >= MOST_BYTES;
        }

        int add(int c) {
            if (within(size, 0, MOST_BYTES - 1)) {
                bytes[size] = c;
                size++;
            }
            return size;
        }

        /** The byte at a place; NONE, which is no byte, behind the last. */
        int at(int place) {
            return place >= 0 && place < size && place < MOST_BYTES ? bytes[place] : NONE;
        }
    }

    /** Reads the text into an island of its own, so that a fault leaves the other as it is. */
    private static final class Reader {
        private static final int END = 0, WORD = 1, NUMBER = 2, STOP = 3, WRONG = 4;

        final Text text;
        final Blow blow;
        final Island island = new Island();
        int start;
        int next;
        int sort;
        int value;

        Reader(Text text, Blow blow) {
            this.text = text;
            this.blow = blow;
        }

        /** How many items there are, or the fault's answer. */
        int parse() {
            island.reset();
            next = 0;
            goOn();
            if (!isWord("island") || !stops()) {
                return READ_FAULT - start;
            }
            int items = 1;
            for (int i = 0; i < MOST_BYTES; i++) {
                goOn();
                if (sort == END) {
                    return items;
                }
                boolean stands = false;
                if (isWord("winds")) {
                    stands = readWinds();
                } else if (isWord("user")) {
                    stands = readUser();
                } else if (isWord("suit")) {
                    stands = readSuit();
                } else if (isWord("hours")) {
                    stands = readHours();
                }
                if (!stands) {
                    return READ_FAULT - start;
                }
                items++;
            }
            return items;
        }

        private boolean readWinds() {
            for (int h = 0; h <= DAY; h++) {
                goOn();
                if (h > 0 && sort == STOP) {
                    return true;
                }
                if (h == DAY || !isNumber(0, MOST_STRENGTH)) {
                    return false;
                }
                int strength = value;
                if (!goesOnWith(0, 1)) {
                    return false;
                }
                island.tellWind(h, strength, value);
            }
            return false;
        }

        private boolean readUser() {
            if (island.users.isFull() || !goesOnWith(0, KINDS - 1)) {
                return false;
            }
            int kind = value;
            if (!goesOnWith(0, CELLS - 1)) {
                return false;
            }
            int cell = value;
            if (!goesOnWith(1, MOST_HEIGHT)) {
                return false;
            }
            island.addUser(kind, cell, value);
            return stops();
        }

        private boolean readSuit() {
            if (island.suits.isFull() || !goesOnWith(0, KINDS - 1)) {
                return false;
            }
            int kind = value;
            if (!goesOnWith(0, island.users.size - 1)) {
                return false;
            }
            island.fileSuit(kind, value);
            return stops();
        }

        private boolean readHours() {
            if (!goesOnWith(1, MOST_HOURS_AT_ONCE)) {
                return false;
            }
            island.passHours(value, blow);
            return stops();
        }

        private boolean goesOnWith(int least, int most) {
            goOn();
            return isNumber(least, most);
        }

        private boolean stops() {
            goOn();
            return sort == STOP;
        }

        private boolean isNumber(int least, int most) {
            return sort == NUMBER && within(value, least, most);
        }

        private boolean isWord(String word) {
            if (sort != WORD || next - start != word.length()) {
                return false;
            }
            for (int i = 0; i < word.length(); i++) {
                if (text.at(start + i) != word.charAt(i)) {
                    return false;
                }
            }
            return true;
        }

        /** Goes to the next token: where it starts, where it ends, its sort, a number's value. */
        private void goOn() {
            start = runEnd(next, ' ', ' ');
            int b = text.at(start);
            if (within(b, 'a', 'z')) {
                next = runEnd(start, 'a', 'z');
                sort = WORD;
            } else if (within(b, '0', '9')) {
                next = runEnd(start, '0', '9');
                sort = next - start > 2 ? WRONG : NUMBER;
                value = next - start == 2 ? 10 * (b - '0') + text.at(start + 1) - '0' : b - '0';
            } else {
                next = start + 1;
                sort = b == ';' ? STOP : b == NONE ? END : WRONG;
            }
        }

        /** The first place from here on whose byte is not one from least to most. */
        private int runEnd(int from, int least, int most) {
            int place = from;
            while (place < text.size && within(text.at(place), least, most)) {
                place++;
            }
            return place;
        }
    }
}
