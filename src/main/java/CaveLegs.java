import java.util.Arrays;

/**
 * A cave survey: legs measured with tape, compass and clinometer between
 * stations, and their network adjustment. Sets of legs and of stations are bit
 * masks throughout. No call makes objects beyond the few that it keeps.
 */
public final class CaveLegs {
    public static final int UNKNOWN = -1, OUTSIDE = -2, STATE = -3, FULL = -4, NONE = -9;

    private static final int MOST_STATIONS = 6;
    private static final int MOST_LEGS = 8;
    private static final int MOST_LETTERS = 70;
    private static final int MOST_CHANGES = 14;
    private static final int MOST_SIGHTINGS = 6;
    private static final int MOST_ITEMS = 4;
    private static final int MOST_STEPS = 40;
    private static final int HIGHEST_LETTER = 255;
    private static final int HIGHEST_GIRTH = 9;
    private static final int SLOTS = 2;

    /** The properties of a leg, by the numbers that leg() gives them. */
    private static final int LENGTH = 0, BEARING = 1, SLOPE = 2, WIDTH = 3;
    private static final int FROM = 4, TO = 5, FALLEN = 6, VECTOR = 7;

    /** The components of a vector; the first one is east. */
    private static final int NORTH = 1, UP = 2, AXES = 3;

    /** Added to answers that can be negative, to keep them apart from errors. */
    private static final int VECTOR_SHIFT = 100, COORDINATE_SHIFT = 1000;

    /** The bits of an int; a set has no number beyond them. */
    private static final int SET_SIZE = 32;

    /** The set that holds the entrance alone. */
    private static final int ENTRANCE = 1;

    private static final int ITEM = 10000;

    private final Text text = new Text();
    private final Legs now = new Legs();
    private final Past past = new Past();
    private final Legs[] slots = new Legs[SLOTS];
    private final Sightings sightings = new Sightings();
    private final Survey survey = new Survey();
    private final Legs trial = new Legs();
    private int filledSlots;
    private long seedNow;

    public CaveLegs() {
    }

    // ---- the cave

    public int write(int letter) {
        if (letter < 0 || letter > HIGHEST_LETTER) {
            return OUTSIDE;
        }
        return text.append((char) letter) ? text.length : FULL;
    }

    public int wipe() {
        int had = text.length;
        text.length = 0;
        return had;
    }

    public int fault() {
        return text.errorAt();
    }

    public int cave() {
        if (text.errorAt() != NONE) {
            return STATE;
        }
        text.describe(now);
        past.forget();
        filledSlots = 0;
        return now.size;
    }

    public int leg(int leg, int what) {
        if (!now.has(leg)) {
            return UNKNOWN;
        }
        if (what < LENGTH || what >= VECTOR + AXES) {
            return OUTSIDE;
        }
        return what < VECTOR ? now.get(leg, what) : now.vector(leg, what - VECTOR) + VECTOR_SHIFT;
    }

    // ---- acts

    public int measure(int from, int to, int tape, int bearing, int slope, int width) {
        if (!now.hasStation(from) || !now.hasStation(to)) {
            return UNKNOWN;
        }
        if (from == to) {
            return STATE;
        }
        if (!allows(LENGTH, tape) || !allows(BEARING, bearing) || !allows(SLOPE, slope) || !allows(WIDTH, width)) {
            return OUTSIDE;
        }
        if (now.size >= MOST_LEGS) {
            return FULL;
        }
        past.remember(now);
        now.add(from, to, tape, bearing, slope, width);
        return now.size;
    }

    public int take(int leg) {
        if (!now.has(leg)) {
            return UNKNOWN;
        }
        past.remember(now);
        now.remove(leg);
        return now.size;
    }

    public int read(int leg, int what, int v) {
        if (!now.has(leg)) {
            return UNKNOWN;
        }
        if (!allows(what, v)) {
            return OUTSIDE;
        }
        past.remember(now);
        int previous = now.get(leg, what);
        now.put(leg, what, v);
        return previous;
    }

    public int fall(int leg) {
        if (!now.has(leg)) {
            return UNKNOWN;
        }
        past.remember(now);
        now.turn(leg);
        return now.get(leg, FALLEN);
    }

    public int undo() {
        return past.restore(now) ? past.depth : STATE;
    }

    // ---- asked

    public int laid(int station, int what) {
        int error = stationError(station, what);
        if (error != NONE) {
            return error;
        }
        survey.plot(now);
        return survey.place(station, what) + COORDINATE_SHIFT;
    }

    public int miss(int leg, int what) {
        int error = legError(leg, what);
        if (error != NONE) {
            return error;
        }
        survey.plot(now);
        return survey.misclosure(now, leg, what) + COORDINATE_SHIFT;
    }

    public long evened(int station, int what, boolean upper) {
        int error = stationError(station, what);
        if (error != NONE) {
            return error;
        }
        survey.adjust(now, now.all());
        return lowest(survey.coordinate(station, what), survey.divisor, upper);
    }

    public long rest(int leg, int what, boolean upper) {
        int error = legError(leg, what);
        if (error != NONE) {
            return error;
        }
        survey.adjust(now, now.all());
        return lowest(survey.residual(now, leg, what), survey.divisor, upper);
    }

    public long squares(boolean upper) {
        survey.adjust(now, now.all());
        return lowest(survey.squareSum, survey.divisor * survey.divisor, upper);
    }

    public int ask(int what) {
        switch (what) {
            case 0:
                return now.connected();
            case 1:
                return now.loops();
            case 2:
                return survey.blunder(now);
            case 3:
                return survey.menders(now);
            default:
                return OUTSIDE;
        }
    }

    public int widest(int station, int other) {
        if (!now.hasStation(station) || !now.hasStation(other)) {
            return UNKNOWN;
        }
        return now.greatestWidth(now.all(), station, other);
    }

    public int come(int g) {
        return isGirth(g) ? now.reached(g) : OUTSIDE;
    }

    public int must(int station) {
        if (!now.hasStation(station)) {
            return UNKNOWN;
        }
        int open = now.open(1);
        if (!holds(now.spread(open, ENTRANCE), station)) {
            return 0;
        }
        int needed = 0;
        for (int leg = 0; leg < now.size; leg++) {
            if (!holds(now.spread(open & ~(1 << leg), ENTRANCE), station)) {
                needed |= 1 << leg;
            }
        }
        return needed;
    }

    public int judge(int n, long row) {
        if (n < 1 || n > MOST_ITEMS || row < 0 || withoutLast(row, n) != 0) {
            return OUTSIDE;
        }
        trial.copy(now);
        for (int i = 0; i < n; i++) {
            if (!passes((int) (withoutLast(row, n - 1 - i) % ITEM))) {
                return i;
            }
        }
        return NONE;
    }

    // ---- seen

    public int see(int station, int other, int v, int was) {
        if (!now.hasStation(station) || !now.hasStation(other)) {
            return UNKNOWN;
        }
        if (v < 0 || v > HIGHEST_GIRTH + 1 || was < 0 || was > 1) {
            return OUTSIDE;
        }
        return sightings.add(station, other, v, was) ? sightings.size : FULL;
    }

    public int unsee() {
        int had = sightings.size;
        sightings.size = 0;
        return had;
    }

    public int which() {
        int open = now.open(1);
        int suspects = 0;
        for (int leg = 0; leg < now.size; leg++) {
            if (holds(open, leg) && sightings.fit(now, open & ~(1 << leg))) {
                suspects |= 1 << leg;
            }
        }
        return suspects;
    }

    // ---- shares, chances

    public int share(int leg, boolean upper) {
        if (!now.has(leg)) {
            return UNKNOWN;
        }
        if (now.get(leg, FALLEN) != 0) {
            return STATE;
        }
        int others = now.open(1) & ~(1 << leg);
        int rivals = Integer.bitCount(others);
        int gains = 0;
        for (int before = 0; before < 1 << MOST_LEGS; before++) {
            if ((before & ~others) == 0) {
                int early = Integer.bitCount(before);
                gains += gain(before, leg) * factorial(early) * factorial(rivals - early);
            }
        }
        return (int) lowest(gains, factorial(rivals + 1), upper);
    }

    public int falls(int station, int g, int x, boolean upper) {
        if (!now.hasStation(station)) {
            return UNKNOWN;
        }
        if (!isGirth(g) || x < 0 || x > 10) {
            return OUTSIDE;
        }
        int passable = now.open(g);
        int legs = Integer.bitCount(passable);
        int cases = 0;
        for (int left = 0; left < 1 << MOST_LEGS; left++) {
            if ((left & ~passable) == 0 && holds(now.spread(left, ENTRANCE), station)) {
                int stay = Integer.bitCount(left);
                cases += power(10 - x, stay) * power(x, legs - stay);
            }
        }
        return (int) lowest(cases, power(10, legs), upper);
    }

    public long seed(long v) {
        long previous = seedNow;
        seedNow = v;
        return previous;
    }

    public int drawn(int m) {
        if (m < 1 || m > MOST_STEPS) {
            return OUTSIDE;
        }
        int station = 0;
        int away = 0;
        for (int step = 0; step < m; step++) {
            seedNow = seedNow * 6364136223846793005L + 1442695040888963407L;
            station = walked(station, seedNow >>> 33);
            if (station != 0) {
                away++;
            }
        }
        return away;
    }

    // ---- places to keep in

    public int keep(int slot) {
        if (slot < 0 || slot >= slots.length) {
            return UNKNOWN;
        }
        if (slots[slot] == null) {
            slots[slot] = new Legs();
        }
        slots[slot].copy(now);
        filledSlots |= 1 << slot;
        return now.size;
    }

    public int again(int slot) {
        if (slot < 0 || slot >= slots.length) {
            return UNKNOWN;
        }
        Legs kept = slots[slot];
        if (kept == null || !holds(filledSlots, slot)) {
            return STATE;
        }
        now.copy(kept);
        past.forget();
        return now.size;
    }

    public int count(int what) {
        switch (what) {
            case 0:
                return text.length;
            case 1:
                return now.stations;
            case 2:
                return now.size;
            case 3:
                return now.all() & ~now.open(1);
            case 4:
                return past.depth;
            case 5:
                return sightings.size;
            default:
                return OUTSIDE;
        }
    }

    // ---- what the methods share

    private static boolean holds(int set, int number) {
        return number >= 0 && number < SET_SIZE && (set >> number & 1) != 0;
    }

    private static boolean isGirth(int g) {
        return g >= 1 && g <= HIGHEST_GIRTH;
    }

    /** Whether a measurement of a leg can have the value v. */
    private static boolean allows(int what, int v) {
        switch (what) {
            case LENGTH:
                return v >= 1 && v <= 99;
            case BEARING:
                return v >= 0 && v <= 11;
            case SLOPE:
                return v >= 0 && v <= 4;
            case WIDTH:
                return v >= 1 && v <= HIGHEST_GIRTH;
            default:
                return false;
        }
    }

    /** The error of a question about a coordinate of a station, or NONE. */
    private int stationError(int station, int axis) {
        if (!now.hasStation(station)) {
            return UNKNOWN;
        }
        if (axis < 0 || axis >= AXES) {
            return OUTSIDE;
        }
        return holds(now.connected(), station) ? NONE : STATE;
    }

    /** The error of a question about a component of a leg, or NONE. */
    private int legError(int leg, int axis) {
        if (!now.has(leg)) {
            return UNKNOWN;
        }
        if (axis < 0 || axis >= AXES) {
            return OUTSIDE;
        }
        return holds(now.touching(now.connected()), leg) ? NONE : STATE;
    }

    /** The row without its last items. */
    private static long withoutLast(long row, int items) {
        long left = row;
        for (int i = 0; i < items; i++) {
            left /= ITEM;
        }
        return left;
    }

    /** Whether an item of judge() does not fail on the trial, which it may change. */
    private boolean passes(int item) {
        int kind = item / 1000;
        int a = item / 100 % 10;
        int b = item / 10 % 10;
        int v = item % 10;
        return kind <= 3 ? carriesOut(kind, a, b, v) : isTrue(kind, a, b, v);
    }

    private boolean carriesOut(int kind, int a, int b, int v) {
        int length = 10 * b + v;
        // a new length is above 0; the other kinds want both digits to be 0
        if (!trial.has(a) || (kind == 3) != (length > 0)) {
            return false;
        }
        switch (kind) {
            case 1:
                trial.turn(a);
                return true;
            case 2:
                trial.remove(a);
                return true;
            case 3:
                trial.put(a, LENGTH, length);
                return true;
            default:
                return false;
        }
    }

    private boolean isTrue(int kind, int a, int b, int v) {
        switch (kind) {
            case 4:
                return trial.hasStation(a) && trial.hasStation(b) && trial.greatestWidth(trial.all(), a, b) >= v;
            case 5:
                return v == 0 && trial.loops() == 10 * a + b;
            case 6:
                return trial.has(a) && b == 0 && v == 0 && survey.closes(trial, a);
            case 7:
                return trial.hasStation(a) && b > 0 && v <= 1 && holds(trial.reached(b), a) == (v == 1);
            default:
                return false;
        }
    }

    /** How many more stations can be reached when the leg joins those before it. */
    private int gain(int before, int leg) {
        int without = now.spread(before, ENTRANCE);
        int with = now.spread(before | 1 << leg, ENTRANCE);
        return Integer.bitCount(with) - Integer.bitCount(without);
    }

    private int walked(int station, long r) {
        if (now.size < 1) {
            return station;
        }
        int leg = (int) (r % now.size);
        if (now.get(leg, FALLEN) != 0) {
            return station;
        }
        int from = now.get(leg, FROM);
        int to = now.get(leg, TO);
        if (station == from) {
            return to;
        }
        return station == to ? from : station;
    }

    private static int factorial(int n) {
        int product = 1;
        for (int i = 1; i < n; i++) {
            product *= i + 1;
        }
        return product;
    }

    private static int power(int base, int exponent) {
        int product = 1;
        for (int i = 0; i < exponent; i++) {
            product *= base;
        }
        return product;
    }

    /** One side of the fraction in lowest terms; the bottom is above 0. */
    private static long lowest(long top, long bottom, boolean upper) {
        long common = commonDivisor(bottom, Math.abs(top));
        long side = upper ? top : bottom;
        return common == 0 ? side : side / common;
    }

    /** By Euclid, who needs fewer than 100 steps for any two longs. */
    private static long commonDivisor(long one, long other) {
        long a = one;
        long b = other;
        for (int step = 0; step < 100 && b != 0; step++) {
            long left = a % b;
            a = b;
            b = left;
        }
        return a;
    }

    /** The text that describes a cave. */
    private static final class Text {
        private static final int HEAD = 2;
        private static final int LETTERS_A_LEG = 8;

        private final char[] letters = new char[MOST_LETTERS];
        int length;

        boolean append(char letter) {
            if (length < 0 || length >= letters.length) {
                return false;
            }
            letters[length] = letter;
            length++;
            return true;
        }

        int errorAt() {
            for (int i = 0; i < length; i++) {
                if (!canStand(i)) {
                    return i;
                }
            }
            return length >= HEAD && (length - HEAD) % LETTERS_A_LEG == 0 ? NONE : length;
        }

        /** Replaces the legs by those of the text, which must have no error. */
        void describe(Legs legs) {
            legs.size = 0;
            legs.stations = value(1);
            for (int i = HEAD; i + LETTERS_A_LEG <= length; i += LETTERS_A_LEG) {
                int tape = 10 * value(i + 3) + value(i + 4);
                legs.add(value(i + 1), value(i + 2), tape, value(i + 5), value(i + 6), value(i + 7));
            }
        }

        /** Whether the character at i can stand there, if all before it can. */
        private boolean canStand(int i) {
            int v = value(i);
            if (i < HEAD) {
                return i == 0 ? letterAt(0) == 'C' : v >= 1 && v <= MOST_STATIONS;
            }
            switch ((i - HEAD) % LETTERS_A_LEG) {
                case 0:
                    return letterAt(i) == 'l' && value(1) > 1 && i < HEAD + MOST_LEGS * LETTERS_A_LEG;
                case 1:
                    return v >= 0 && v < value(1);
                case 2:
                    return v >= 0 && v < value(1) && v != value(i - 1);
                case 3:
                    return v >= 0 && v <= 9;
                case 4:
                    return v >= 0 && v <= 9 && allows(LENGTH, 10 * value(i - 1) + v);
                case 5:
                    return allows(BEARING, v);
                case 6:
                    return allows(SLOPE, v);
                default:
                    return allows(WIDTH, v);
            }
        }

        private char letterAt(int i) {
            return i >= 0 && i < length && i < letters.length ? letters[i] : 0;
        }

        /** What a digit, a or b stands for; -1 for another character. */
        private int value(int i) {
            char letter = letterAt(i);
            if (letter >= '0' && letter <= '9') {
                return letter - '0';
            }
            return letter == 'a' ? 10 : letter == 'b' ? 11 : -1;
        }
    }

    /** The stations and legs of a cave; each leg is a row of columns. */
    private static final class Legs {
        /** The column for the set of both stations, which ways are spread by. */
        private static final int PAIR = 7;
        private static final int COLUMNS = 8;

        private static final int[] SINES = {0, 50, 87, 100, 87, 50, 0, -50, -87, -100, -87, -50};

        private final int[] rows = new int[MOST_LEGS * COLUMNS];
        int size;
        int stations = 1;

        boolean has(int leg) {
            return leg >= 0 && leg < size;
        }

        boolean hasStation(int station) {
            return station >= 0 && station < stations;
        }

        int get(int leg, int column) {
            if (leg < 0 || leg >= MOST_LEGS || column < 0 || column >= COLUMNS) {
                return 0;
            }
            return rows[leg * COLUMNS + column];
        }

        void put(int leg, int column, int v) {
            if (leg >= 0 && leg < MOST_LEGS && column >= 0 && column < COLUMNS) {
                rows[leg * COLUMNS + column] = v;
            }
        }

        void add(int from, int to, int tape, int bearing, int slope, int width) {
            if (size < 0 || size >= MOST_LEGS) {
                return;
            }
            put(size, LENGTH, tape);
            put(size, BEARING, bearing);
            put(size, SLOPE, slope);
            put(size, WIDTH, width);
            put(size, FROM, from);
            put(size, TO, to);
            put(size, FALLEN, 0);
            put(size, PAIR, 1 << from | 1 << to);
            size++;
        }

        void remove(int leg) {
            if (!has(leg)) {
                return;
            }
            for (int i = leg * COLUMNS; i >= 0 && i + COLUMNS < rows.length; i++) {
                rows[i] = rows[i + COLUMNS];
            }
            size--;
        }

        /** Lets the leg collapse, or opens it. */
        void turn(int leg) {
            put(leg, FALLEN, 1 - get(leg, FALLEN));
        }

        void copy(Legs other) {
            if (other == null) {
                return;
            }
            for (int i = 0; i < rows.length && i < other.rows.length; i++) {
                rows[i] = other.rows[i];
            }
            size = other.size;
            stations = other.stations;
        }

        int vector(int leg, int axis) {
            int length = get(leg, LENGTH);
            int slope = get(leg, SLOPE);
            if (axis == UP) {
                return rise(length, slope);
            }
            return level(length, slope) * sine(get(leg, BEARING) + (axis == NORTH ? 3 : 0)) / 100;
        }

        private static int sine(int twelfths) {
            int i = Math.floorMod(twelfths, 12);
            return i >= 0 && i < SINES.length ? SINES[i] : 0;
        }

        private static int level(int length, int slope) {
            switch (slope) {
                case 2:
                    return length;
                case 1:
                case 3:
                    return length * 87 / 100;
                default:
                    return length * 50 / 100;
            }
        }

        private static int rise(int length, int slope) {
            switch (slope) {
                case 0:
                    return -(length * 87 / 100);
                case 1:
                    return -(length / 2);
                case 3:
                    return length / 2;
                case 4:
                    return length * 87 / 100;
                default:
                    return 0;
            }
        }

        /** The set of all legs. */
        int all() {
            return (1 << size) - 1;
        }

        /** The set of the open legs that are at least as wide as the girth. */
        int open(int girth) {
            int set = 0;
            for (int leg = 0; leg < size; leg++) {
                if (get(leg, FALLEN) == 0 && get(leg, WIDTH) >= girth) {
                    set |= 1 << leg;
                }
            }
            return set;
        }

        /** The stations to which the given legs lead from the given stations. */
        int spread(int legSet, int stationSet) {
            int found = stationSet;
            for (int pass = 0; pass < MOST_STATIONS; pass++) {
                int before = found;
                for (int i = PAIR, leg = 0; i < rows.length; i += COLUMNS, leg++) {
                    if ((legSet >> leg & 1) != 0 && (rows[i] & found) != 0) {
                        found |= rows[i];
                    }
                }
                if (found == before) {
                    return found;
                }
            }
            return found;
        }

        /** The set of the legs that begin or end at one of the stations. */
        int touching(int stationSet) {
            int set = 0;
            for (int leg = 0; leg < size; leg++) {
                if ((get(leg, PAIR) & stationSet) != 0) {
                    set |= 1 << leg;
                }
            }
            return set;
        }

        /** The lowest leg that leads from these stations to another, or NONE. */
        int leaving(int stationSet) {
            for (int leg = 0; leg < size; leg++) {
                int pair = get(leg, PAIR);
                if ((pair & stationSet) != 0 && (pair & ~stationSet) != 0) {
                    return leg;
                }
            }
            return NONE;
        }

        int connected() {
            return spread(all(), ENTRANCE);
        }

        int loops() {
            int set = connected();
            return Integer.bitCount(touching(set)) - Integer.bitCount(set) + 1;
        }

        /** The set of the legs that can be left out. */
        int spare() {
            int set = 0;
            int whole = connected();
            for (int leg = 0; leg < size; leg++) {
                if (spread(all() & ~(1 << leg), ENTRANCE) == whole) {
                    set |= 1 << leg;
                }
            }
            return set;
        }

        int reached(int girth) {
            return spread(open(girth), ENTRANCE);
        }

        /** The greatest width between two stations by ways of the given legs. */
        int greatestWidth(int legSet, int station, int other) {
            if (station == other) {
                return HIGHEST_GIRTH + 1;
            }
            for (int girth = HIGHEST_GIRTH; girth > 0; girth--) {
                if (holds(spread(legSet & open(girth), 1 << station), other)) {
                    return girth;
                }
            }
            return 0;
        }
    }

    /** The legs before each of the latest changes, in a ring that is used again. */
    private static final class Past {
        private final Legs[] ring = new Legs[MOST_CHANGES];
        private int next;
        int depth;

        void forget() {
            depth = 0;
        }

        void remember(Legs legs) {
            if (next < 0 || next >= ring.length) {
                return;
            }
            if (ring[next] == null) {
                ring[next] = new Legs();
            }
            ring[next].copy(legs);
            next = (next + 1) % MOST_CHANGES;
            depth = Math.min(depth + 1, MOST_CHANGES);
        }

        /** Puts back the legs before the latest change; false if there is none. */
        boolean restore(Legs legs) {
            int latest = (next + MOST_CHANGES - 1) % MOST_CHANGES;
            if (depth < 1 || latest < 0 || latest >= ring.length || ring[latest] == null) {
                return false;
            }
            legs.copy(ring[latest]);
            next = latest;
            depth--;
            return true;
        }
    }

    /** The observations, each a row of station, other, v and was. */
    private static final class Sightings {
        private static final int COLUMNS = 4;

        private final int[] rows = new int[MOST_SIGHTINGS * COLUMNS];
        int size;

        boolean add(int station, int other, int v, int was) {
            int at = size * COLUMNS;
            if (at < 0 || at + COLUMNS > rows.length) {
                return false;
            }
            rows[at] = station;
            rows[at + 1] = other;
            rows[at + 2] = v;
            rows[at + 3] = was;
            size++;
            return true;
        }

        /** Whether all observations are true if just the given legs are open. */
        boolean fit(Legs legs, int legSet) {
            for (int at = 0; at < size * COLUMNS && at + COLUMNS <= rows.length; at += COLUMNS) {
                int station = rows[at];
                int other = rows[at + 1];
                if (legs.hasStation(station) && legs.hasStation(other)) {
                    boolean is = legs.greatestWidth(legSet, station, other) == rows[at + 2];
                    if (is != (rows[at + 3] == 1)) {
                        return false;
                    }
                }
            }
            return true;
        }
    }

    /** Plotted and adjusted coordinates, in rows that every question uses again. */
    private static final class Survey {
        /** The stations but for the entrance, whose coordinates are known. */
        private static final int UNKNOWNS = MOST_STATIONS - 1;
        private static final int COLUMNS = UNKNOWNS + AXES;

        private final int[] places = new int[MOST_STATIONS * AXES];
        private final long[] equations = new long[UNKNOWNS * COLUMNS];

        /** What the numerators of coordinates and residuals are divided by. */
        long divisor = 1;

        /** The numerator of the square sum, over the square of the divisor. */
        long squareSum;

        void plot(Legs legs) {
            Arrays.fill(places, 0);
            int placed = ENTRANCE;
            for (int k = 0; k < MOST_STATIONS; k++) {
                int leg = legs.leaving(placed);
                if (leg == NONE) {
                    return;
                }
                int from = legs.get(leg, FROM);
                int to = legs.get(leg, TO);
                boolean onward = holds(placed, from);
                for (int axis = 0; axis < AXES; axis++) {
                    int step = legs.vector(leg, axis);
                    if (onward) {
                        setPlace(to, axis, place(from, axis) + step);
                    } else {
                        setPlace(from, axis, place(to, axis) - step);
                    }
                }
                placed |= 1 << from | 1 << to;
            }
        }

        int place(int station, int axis) {
            int i = station * AXES + axis;
            return i >= 0 && i < places.length ? places[i] : 0;
        }

        private void setPlace(int station, int axis, int v) {
            int i = station * AXES + axis;
            if (i >= 0 && i < places.length) {
                places[i] = v;
            }
        }

        /** The misclosure by the coordinates that were plotted last. */
        int misclosure(Legs legs, int leg, int axis) {
            int from = legs.get(leg, FROM);
            int to = legs.get(leg, TO);
            return legs.vector(leg, axis) - (place(to, axis) - place(from, axis));
        }

        /** Whether the leg is connected and its misclosure is 0. */
        boolean closes(Legs legs, int leg) {
            if (!holds(legs.touching(legs.connected()), leg)) {
                return false;
            }
            plot(legs);
            for (int axis = 0; axis < AXES; axis++) {
                if (misclosure(legs, leg, axis) != 0) {
                    return false;
                }
            }
            return true;
        }

        /** Adjusts the coordinates as if there were the given legs alone. */
        void adjust(Legs legs, int legSet) {
            int stationSet = legs.spread(legSet, ENTRANCE);
            int used = legSet & legs.touching(stationSet);
            Arrays.fill(equations, 0);
            for (int station = 1; station < MOST_STATIONS; station++) {
                // a station off the network gets an equation of its own, which keeps the pivots above 0
                addTo(station, station - 1, holds(stationSet, station) ? 0 : 1);
            }
            for (int leg = 0; leg < legs.size; leg++) {
                if (holds(used, leg)) {
                    enter(legs, leg);
                }
            }
            solve();
            squareSum = 0;
            for (int leg = 0; leg < legs.size; leg++) {
                if (holds(used, leg)) {
                    squareSum += squareOf(legs, leg);
                }
            }
        }

        /** Adds a leg to the normal equations of its stations. */
        private void enter(Legs legs, int leg) {
            int from = legs.get(leg, FROM);
            int to = legs.get(leg, TO);
            addTo(from, from - 1, 1);
            addTo(from, to - 1, -1);
            addTo(to, to - 1, 1);
            addTo(to, from - 1, -1);
            for (int axis = 0; axis < AXES; axis++) {
                int step = legs.vector(leg, axis);
                addTo(from, UNKNOWNS + axis, -step);
                addTo(to, UNKNOWNS + axis, step);
            }
        }

        /** Adds to the equation of a station; the entrance has none and is no unknown. */
        private void addTo(int station, int column, long v) {
            if (station >= 1 && station <= UNKNOWNS && column >= 0 && column < COLUMNS) {
                equations[(station - 1) * COLUMNS + column] += v;
            }
        }

        private long entry(int row, int column) {
            if (row < 0 || row >= UNKNOWNS || column < 0 || column >= COLUMNS) {
                return 0;
            }
            return equations[row * COLUMNS + column];
        }

        /**
         * Eliminates without fractions (after Bareiss): each division leaves no
         * rest, and in the end every pivot is the determinant. The pivots are
         * above 0, as the equations are positive definite.
         */
        private void solve() {
            divisor = 1;
            for (int pivotRow = 0; pivotRow < UNKNOWNS; pivotRow++) {
                long pivot = entry(pivotRow, pivotRow);
                for (int row = 0; row < UNKNOWNS; row++) {
                    if (row != pivotRow) {
                        eliminate(row, pivotRow, pivot);
                    }
                }
                divisor = pivot;
            }
        }

        private void eliminate(int row, int pivotRow, long pivot) {
            long factor = entry(row, pivotRow);
            for (int column = 0; column < COLUMNS; column++) {
                int i = row * COLUMNS + column;
                if (divisor != 0 && i >= 0 && i < equations.length) {
                    equations[i] = (pivot * equations[i] - factor * entry(pivotRow, column)) / divisor;
                }
            }
        }

        /** The numerator of an adjusted coordinate. */
        long coordinate(int station, int axis) {
            return entry(station - 1, UNKNOWNS + axis);
        }

        /** The numerator of a residual. */
        long residual(Legs legs, int leg, int axis) {
            long difference = coordinate(legs.get(leg, TO), axis) - coordinate(legs.get(leg, FROM), axis);
            return legs.vector(leg, axis) * divisor - difference;
        }

        private long squareOf(Legs legs, int leg) {
            long sum = 0;
            for (int axis = 0; axis < AXES; axis++) {
                long top = residual(legs, leg, axis);
                sum += top * top;
            }
            return sum;
        }

        int blunder(Legs legs) {
            int spare = legs.spare();
            int best = NONE;
            long bestTop = 0;
            long bestBottom = 1;
            for (int leg = 0; leg < legs.size; leg++) {
                if (holds(spare, leg)) {
                    adjust(legs, legs.all() & ~(1 << leg));
                    long bottom = divisor * divisor;
                    if (best == NONE || squareSum * bestBottom < bestTop * bottom) {
                        best = leg;
                        bestTop = squareSum;
                        bestBottom = bottom;
                    }
                }
            }
            return best;
        }

        /** The set of the legs that can be left out and without which the square sum is 0. */
        int menders(Legs legs) {
            int spare = legs.spare();
            int set = 0;
            for (int leg = 0; leg < legs.size; leg++) {
                if (holds(spare, leg)) {
                    adjust(legs, legs.all() & ~(1 << leg));
                    if (squareSum == 0) {
                        set |= 1 << leg;
                    }
                }
            }
            return set;
        }
    }
}
