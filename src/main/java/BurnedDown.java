/**
 * Things that run down, each by its own law, and looks at them: at which minutes each may have begun,
 * alone and all together.
 *
 * <p>Rows are read by at() and written by lay(), which look at the index first: none is ever used beyond its
 * ends. What a call needs is made with the object, and no call makes anything more.
 */
public final class BurnedDown {
    private static final int THINGS = 6;
    private static final int LOOKS = 10;
    private static final int CANDIDATES = 4;
    private static final int MINUTES = 300;
    private static final int LAST = 299;
    private static final int GREATEST = 9999;
    private static final int TAPE = 20;

    private static final int NOBODY = -1;
    private static final int OTHER = -2;
    private static final int STATE = -3;
    private static final int BELOW = -4;
    private static final int ROOM = -6;
    private static final int KINDS_OF_REFUSAL = 6;

    private static final int NONE = -9;
    private static final int FAULT = -20;
    private static final int TOO_SHORT = 1000;
    private static final int TOO_LONG = 1001;
    private static final int WRONG_LOOK = 100;

    private static final int EVEN = 0;
    private static final int TOWARD = 1;
    private static final int STEPS = 2;
    private static final int WHILE = 3;
    private static final int DAMP = 4;
    private static final int KEPT = 5;

    private static final int JUST = 0;
    private static final int AFTER = 1;
    private static final int BEFORE = 2;
    private static final int NEAR = 3;

    /** A cost beyond all that can be: there are 10 LOOKS, each costs 1024 and its bit. */
    private static final long IMPOSSIBLE = 1L << 40;
    private static final int LOOK_SETS = 1 << LOOKS;

    private final World world;
    private final World picture;
    private boolean pictured;
    private final Tape tape;
    private final int[] row;
    private int rowLength;
    private final int[] refusals;
    private final Against against;
    private final Gathering gathering;
    private final Counting counting;
    private final Least least;

    public BurnedDown() {
        world = new World();
        picture = new World();
        tape = new Tape();
        row = new int[THINGS];
        refusals = new int[KINDS_OF_REFUSAL];
        against = new Against();
        gathering = new Gathering();
        counting = new Counting();
        least = new Least();
    }

    public int feed(int n, long bytes) {
        if (n < 1) {
            return refuse(BELOW);
        }
        if (n > 8 || tape.length + n > TAPE) {
            return refuse(ROOM);
        }
        return tape.take(n, bytes);
    }

    public int thing() {
        if (world.things.count >= THINGS) {
            return refuse(ROOM);
        }
        int fault = tape.read();
        tape.length = 0;
        if (fault >= 0) {
            return FAULT - fault;
        }
        return world.things.add(tape.law, tape.beginning, tape.pace);
    }

    public int thingOf(int thing, int what) {
        if (!isThing(thing)) {
            return refuse(NOBODY);
        }
        switch (what) {
            case 0:
                return at(world.things.law, thing);
            case 1:
                return at(world.things.beginning, thing);
            case 2:
                return at(world.things.pace, thing);
            default:
                return refuse(OTHER);
        }
    }

    public int room(int v) {
        if (v < 0) {
            return refuse(BELOW);
        }
        if (v > GREATEST) {
            return refuse(ROOM);
        }
        int was = world.room;
        world.room = v;
        against.forget();
        return was;
    }

    public int window(int from, int to) {
        if (from == -1) {
            world.shut();
            against.forget();
            return 1;
        }
        if (from < 0 || to < from) {
            return refuse(BELOW);
        }
        if (to > LAST) {
            return refuse(ROOM);
        }
        world.open(from, to);
        against.forget();
        return 1;
    }

    public int candidate(int from, int to) {
        if (from < 0 || to < from) {
            return refuse(BELOW);
        }
        if (to > LAST || world.candidates >= CANDIDATES) {
            return refuse(ROOM);
        }
        return world.addCandidate(from, to);
    }

    public int left(int thing, int b, int a) {
        if (!isThing(thing)) {
            return refuse(NOBODY);
        }
        if (b < 0 || a < 0) {
            return refuse(BELOW);
        }
        if (b > LAST || a > LAST) {
            return refuse(ROOM);
        }
        return world.leftAfter(thing, b, a);
    }

    public int look(int thing, int minute, int low, int high) {
        if (!isThing(thing)) {
            return refuse(NOBODY);
        }
        if (minute < 0 || low < 0 || high < low) {
            return refuse(BELOW);
        }
        if (minute > LAST || high > GREATEST || world.looks.count >= LOOKS) {
            return refuse(ROOM);
        }
        return world.looks.add(thing, minute, low, high);
    }

    public int doubt(int look, boolean is) {
        if (look < 0 || look >= world.looks.count) {
            return refuse(NOBODY);
        }
        return world.looks.mark(look, is) ? 1 : 0;
    }

    public int join(int thing, int other, int kind, int n) {
        if (!isThing(thing) || other < -1 || other >= thing) {
            return refuse(NOBODY);
        }
        if (other == -1) {
            return world.things.tie(thing, -1, 0, 0);
        }
        if (kind < JUST || kind > NEAR) {
            return refuse(OTHER);
        }
        int wrong = wrongMinute(n);
        return wrong < 0 ? refuse(wrong) : world.things.tie(thing, other, kind, n);
    }

    public int alone(int thing) {
        if (!isThing(thing)) {
            return refuse(NOBODY);
        }
        against.learn(world);
        int minutes = 0;
        for (int b = 0; b < MINUTES; b++) {
            if (against.speaking(world, thing, b) == 0) {
                minutes++;
            }
        }
        return minutes;
    }

    public int can(int thing, int minute) {
        if (!isThing(thing)) {
            return refuse(NOBODY);
        }
        int wrong = wrongMinute(minute);
        if (wrong < 0) {
            return refuse(wrong);
        }
        against.learn(world);
        return against.speaking(world, thing, minute) == 0 ? 1 : 0;
    }

    public long ways() {
        against.learn(world);
        return waysWithout(-1);
    }

    public int may(int thing) {
        if (!isThing(thing)) {
            return refuse(NOBODY);
        }
        against.learn(world);
        countWaysOf(thing);
        int minutes = 0;
        for (int b = 0; b < MINUTES; b++) {
            if (gathering.value(thing, b) > 0) {
                minutes++;
            }
        }
        return minutes;
    }

    public int run(int thing, int i, int what) {
        if (!isThing(thing)) {
            return refuse(NOBODY);
        }
        if (what != 0 && what != 1) {
            return refuse(OTHER);
        }
        against.learn(world);
        countWaysOf(thing);
        int from = runStart(thing, i);
        if (from == NONE || what == 0) {
            return from;
        }
        return runEnd(thing, from);
    }

    public long chance(int thing, int minute, int part) {
        if (!isThing(thing)) {
            return refuse(NOBODY);
        }
        if (part != 0 && part != 1) {
            return refuse(OTHER);
        }
        int wrong = wrongMinute(minute);
        if (wrong < 0) {
            return refuse(wrong);
        }
        against.learn(world);
        countWaysOf(thing);
        long with = gathering.value(thing, minute);
        long all = gathering.together(thing, counting);
        long shared = greatestDivisor(all, with);
        if (shared == 0) {
            // There are no WAYS at all: 0 by 1.
            return part;
        }
        return (part == 0 ? with : all) / shared;
    }

    public int put(int v) {
        int wrong = wrongMinute(v);
        if (wrong < 0) {
            return refuse(wrong);
        }
        if (rowLength >= THINGS) {
            return refuse(ROOM);
        }
        lay(row, rowLength, v);
        rowLength++;
        return rowLength;
    }

    public int judge() {
        int length = rowLength;
        rowLength = 0;
        if (length < world.things.count) {
            return TOO_SHORT;
        }
        if (length > world.things.count) {
            return TOO_LONG;
        }
        against.learn(world);
        for (int t = 0; t < world.things.count; t++) {
            int wrong = wrongInRow(t);
            if (wrong != NONE) {
                return wrong;
            }
        }
        return NONE;
    }

    public int doubts() {
        if (world.things.count == 0) {
            return 0;
        }
        against.learn(world);
        for (int t = 0; t < world.things.count; t++) {
            for (int b = 0; b < MINUTES; b++) {
                gathering.set(t, b, costOf(against.speaking(world, t, b)));
            }
        }
        gathering.gather(world.things, 0, least);
        long cost = gathering.together(0, least);
        return cost >= IMPOSSIBLE ? NONE : (int) cost & (LOOK_SETS - 1);
    }

    public int opened() {
        int opens = world.opens;
        int closes = world.closes;
        int found = NONE;
        // The candidates are lent the place of the WINDOW.
        for (int i = 0; i < world.candidates && found == NONE; i++) {
            world.open(at(world.from, i), at(world.to, i));
            against.forget();
            against.learn(world);
            found = waysWithout(-1) > 0 ? i : NONE;
        }
        world.open(opens, closes);
        against.forget();
        return found;
    }

    public int hangs() {
        against.learn(world);
        long most = waysWithout(-1);
        int found = NONE;
        for (int t = 0; t < world.things.count; t++) {
            long without = waysWithout(t);
            if (without > most) {
                most = without;
                found = t;
            }
        }
        return found;
    }

    public int ahead(int one, int other) {
        if (!isThing(one) || !isThing(other) || one == other) {
            return refuse(NOBODY);
        }
        against.learn(world);
        boolean before = someWayBefore(one, other);
        boolean notBefore = someWayNotBefore(one, other);
        if (!before) {
            return notBefore ? 0 : NONE;
        }
        return notBefore ? 2 : 1;
    }

    public int narrow(int thing, int minute) {
        if (!isThing(thing)) {
            return refuse(NOBODY);
        }
        int wrong = wrongMinute(minute);
        if (wrong < 0) {
            return refuse(wrong);
        }
        against.learn(world);
        return mostAlike(thing, minute);
    }

    public int next(int minute) {
        int wrong = wrongMinute(minute);
        if (wrong < 0) {
            return refuse(wrong);
        }
        against.learn(world);
        int fewest = MINUTES + 1;
        int found = NONE;
        for (int t = 0; t < world.things.count; t++) {
            int alike = mostAlike(t, minute);
            if (alike != NONE && alike < fewest) {
                fewest = alike;
                found = t;
            }
        }
        return found;
    }

    public int image() {
        picture.take(world);
        pictured = true;
        return world.things.count;
    }

    public int on() {
        if (!pictured) {
            return refuse(STATE);
        }
        world.take(picture);
        against.forget();
        return world.things.count;
    }

    public int count(int what) {
        switch (what) {
            case 0:
                return world.things.count;
            case 1:
                return world.looks.count;
            case 2:
                return Integer.bitCount(world.looks.doubted);
            case 3:
                return world.things.joinings();
            case 4:
                return world.candidates;
            case 5:
                return tape.length;
            case 6:
                return rowLength;
            default:
                return what >= 11 && what <= 16 ? at(refusals, what - 11) : NONE;
        }
    }

    private int refuse(int number) {
        lay(refusals, -number - 1, at(refusals, -number - 1) + 1);
        return number;
    }

    private boolean isThing(int thing) {
        return thing >= 0 && thing < world.things.count;
    }

    private static int wrongMinute(int minute) {
        if (minute < 0) {
            return BELOW;
        }
        return minute > LAST ? ROOM : 0;
    }

    /** WAYS, if the LOOKS at one THING (-1: at none) were not. */
    private long waysWithout(int unseen) {
        if (world.things.count == 0) {
            return 1;
        }
        setCounts(unseen);
        gathering.gather(world.things, 0, counting);
        return gathering.together(0, counting);
    }

    /** Brings to each MINUTE of a THING the WAYS with it. */
    private void countWaysOf(int thing) {
        setCounts(-1);
        gathering.gather(world.things, thing, counting);
    }

    private void setCounts(int unseen) {
        for (int t = 0; t < world.things.count; t++) {
            for (int b = 0; b < MINUTES; b++) {
                boolean stands = t == unseen || against.speaking(world, t, b) == 0;
                gathering.set(t, b, stands ? 1 : 0);
            }
        }
    }

    private int runStart(int thing, int i) {
        int runs = 0;
        for (int b = 0; b < MINUTES; b++) {
            boolean starts = gathering.value(thing, b) > 0
                    && (b == 0 || gathering.value(thing, b - 1) == 0);
            if (starts && runs == i) {
                return b;
            }
            runs += starts ? 1 : 0;
        }
        return NONE;
    }

    private int runEnd(int thing, int from) {
        int end = from;
        while (end < LAST && gathering.value(thing, end + 1) > 0) {
            end++;
        }
        return end;
    }

    private static long greatestDivisor(long one, long other) {
        long a = one;
        long b = other;
        // The numbers of Euclid's row halve in two steps, so a hundred are enough for any long below 2 to the 50.
        for (int i = 0; i < 100 && b != 0; i++) {
            long rest = a % b;
            a = b;
            b = rest;
        }
        return a;
    }

    private int wrongInRow(int t) {
        int b = at(row, t);
        int speaking = against.speaking(world, t, b);
        if (speaking != 0) {
            return WRONG_LOOK + Integer.numberOfTrailingZeros(speaking);
        }
        int other = at(world.things.joined, t);
        if (other < 0) {
            return NONE;
        }
        int of = at(row, other);
        boolean keeps = b >= world.things.lowest(t, of, true) && b <= world.things.highest(t, of, true);
        return keeps ? NONE : t;
    }

    /**
     * What it costs to leave LOOKS out. The bits of several THINGS never meet, so costs can be added, and
     * the least sum is the set with the fewest and, of several, the least as bits.
     */
    private static long costOf(int looks) {
        return (long) Integer.bitCount(looks) * LOOK_SETS + looks;
    }

    /** Whether some WAY has the one earlier: it is seen by the latest MINUTE that the other has with each of the one. */
    private boolean someWayBefore(int one, int other) {
        setMinutes(other, true);
        gathering.gather(world.things, one, least);
        for (int b = 0; b < MINUTES; b++) {
            long cost = gathering.value(one, b);
            if (cost < IMPOSSIBLE && LAST - cost > b) {
                return true;
            }
        }
        return false;
    }

    /** Likewise, by the earliest MINUTE that the other has with each of the one. */
    private boolean someWayNotBefore(int one, int other) {
        setMinutes(other, false);
        gathering.gather(world.things, one, least);
        for (int b = 0; b < MINUTES; b++) {
            // An impossible cost is above every MINUTE.
            if (gathering.value(one, b) <= b) {
                return true;
            }
        }
        return false;
    }

    /** The MINUTES of one THING alone cost something: late ones are cheap, or early ones. */
    private void setMinutes(int thing, boolean late) {
        for (int t = 0; t < world.things.count; t++) {
            for (int b = 0; b < MINUTES; b++) {
                long cost = late ? LAST - b : b;
                if (against.speaking(world, t, b) != 0) {
                    cost = IMPOSSIBLE;
                } else if (t != thing) {
                    cost = 0;
                }
                gathering.set(t, b, cost);
            }
        }
    }

    /**
     * NARROW. LEFT at one MINUTE only rises or only falls with the MINUTE at which a THING began, by every LAW,
     * so like numbers stand one behind another.
     */
    private int mostAlike(int thing, int minute) {
        setCounts(-1);
        gathering.gather(world.things, thing, counting);
        world.fillLefts(thing, minute);
        int most = 0;
        int alike = 0;
        int last = -1;
        for (int b = 0; b <= minute; b++) {
            if (gathering.value(thing, b) > 0) {
                int number = at(world.lefts, b);
                alike = number == last ? alike + 1 : 1;
                last = number;
                most = Math.max(most, alike);
            }
        }
        return most > 0 ? most : NONE;
    }

    private static int at(int[] row, int i) {
        return i >= 0 && i < row.length ? row[i] : 0;
    }

    private static long at(long[] row, int i) {
        return i >= 0 && i < row.length ? row[i] : 0;
    }

    private static void lay(int[] row, int i, int value) {
        if (i >= 0 && i < row.length) {
            row[i] = value;
        }
    }

    private static void lay(long[] row, int i, long value) {
        if (i >= 0 && i < row.length) {
            row[i] = value;
        }
    }

    private static void copyRow(int[] from, int[] to) {
        for (int i = 0; i < from.length && i < to.length; i++) {
            to[i] = from[i];
        }
    }

    /** THE TAPE, and what was read from it last. */
    private static final class Tape {
        private final int[] bytes = new int[TAPE];
        private int length;
        private int place;
        private int law;
        private int beginning;
        private int pace;

        private int take(int n, long more) {
            for (int i = 0; i < n; i++) {
                lay(bytes, length, (int) (more >>> (8 * i)) & 255);
                length++;
            }
            return length;
        }

        /** The place of the FAULT, or -1. */
        private int read() {
            place = 0;
            law = lawOf(byteHere());
            if (law < 0) {
                return place;
            }
            place++;
            beginning = readNumber(4);
            if (beginning < 0 || byteHere() != ',') {
                return place;
            }
            place++;
            pace = readNumber(2);
            return pace < 0 || place < length ? place : -1;
        }

        /** A number of so many digits at most; -1 if there is none. */
        private int readNumber(int digits) {
            int value = 0;
            int read = 0;
            while (read < digits && byteHere() >= '0' && byteHere() <= '9') {
                value = value * 10 + byteHere() - '0';
                read++;
                place++;
            }
            return read == 0 ? -1 : value;
        }

        private int byteHere() {
            return place < length ? at(bytes, place) : -1;
        }

        private static int lawOf(int letter) {
            switch (letter) {
                case 'e':
                    return EVEN;
                case 't':
                    return TOWARD;
                case 's':
                    return STEPS;
                case 'w':
                    return WHILE;
                case 'd':
                    return DAMP;
                case 'k':
                    return KEPT;
                default:
                    return -1;
            }
        }
    }

    /** THINGS and their JOININGS. */
    private static final class Things {
        private int count;
        private final int[] law = new int[THINGS];
        private final int[] beginning = new int[THINGS];
        private final int[] pace = new int[THINGS];
        private final int[] joined = new int[THINGS];
        private final int[] kind = new int[THINGS];
        private final int[] distance = new int[THINGS];

        private int add(int itsLaw, int itsBeginning, int itsPace) {
            lay(law, count, itsLaw);
            lay(beginning, count, itsBeginning);
            lay(pace, count, itsPace);
            tie(count, -1, 0, 0);
            count++;
            return count - 1;
        }

        private int tie(int thing, int other, int itsKind, int n) {
            lay(joined, thing, other);
            lay(kind, thing, itsKind);
            lay(distance, thing, n);
            return 1;
        }

        private int joinings() {
            int found = 0;
            for (int t = 0; t < count; t++) {
                found += at(joined, t) >= 0 ? 1 : 0;
            }
            return found;
        }

        /**
         * The first MINUTE that the JOINING of a THING leaves to it, if the one that it is joined to began
         * at b; or (not its own) to that one, if the THING began at b. It may lie beyond 0 .. 299.
         */
        private int lowest(int thing, int b, boolean own) {
            int n = at(distance, thing);
            switch (at(kind, thing)) {
                case JUST:
                    return own ? b + n : b - n;
                case AFTER:
                    return own ? b + n : 0;
                case BEFORE:
                    return own ? 0 : b + n;
                default:
                    return b - n;
            }
        }

        /** The last one, likewise. */
        private int highest(int thing, int b, boolean own) {
            int n = at(distance, thing);
            switch (at(kind, thing)) {
                case JUST:
                    return own ? b + n : b - n;
                case AFTER:
                    return own ? LAST : b - n;
                case BEFORE:
                    return own ? b - n : LAST;
                default:
                    return b + n;
            }
        }

        private void take(Things other) {
            count = other.count;
            copyRow(other.law, law);
            copyRow(other.beginning, beginning);
            copyRow(other.pace, pace);
            copyRow(other.joined, joined);
            copyRow(other.kind, kind);
            copyRow(other.distance, distance);
        }
    }

    /** LOOKS, and as bits which of them are DOUBTED. */
    private static final class Looks {
        private int count;
        private int doubted;
        private final int[] thing = new int[LOOKS];
        private final int[] minute = new int[LOOKS];
        private final int[] low = new int[LOOKS];
        private final int[] high = new int[LOOKS];

        private int add(int itsThing, int itsMinute, int itsLow, int itsHigh) {
            lay(thing, count, itsThing);
            lay(minute, count, itsMinute);
            lay(low, count, itsLow);
            lay(high, count, itsHigh);
            count++;
            return count - 1;
        }

        /** Whether it was otherwise before. */
        private boolean mark(int number, boolean is) {
            int bit = 1 << number;
            int was = doubted;
            doubted = is ? doubted | bit : doubted & ~bit;
            return doubted != was;
        }

        private void take(Looks other) {
            count = other.count;
            doubted = other.doubted;
            copyRow(other.thing, thing);
            copyRow(other.minute, minute);
            copyRow(other.low, low);
            copyRow(other.high, high);
        }
    }

    /** All that THE IMAGE holds, and what is LEFT by it. */
    private static final class World {
        private final Things things = new Things();
        private final Looks looks = new Looks();
        private int room = 200;
        private int opens = 0;
        private int closes = -1;
        private int candidates;
        private final int[] from = new int[CANDIDATES];
        private final int[] to = new int[CANDIDATES];
        private final int[] lefts = new int[MINUTES];

        private void open(int first, int last) {
            opens = first;
            closes = last;
        }

        /** A WINDOW that closes before it opens has no MINUTE in it. */
        private void shut() {
            open(0, -1);
        }

        private int addCandidate(int first, int last) {
            lay(from, candidates, first);
            lay(to, candidates, last);
            candidates++;
            return candidates;
        }

        private void take(World other) {
            things.take(other.things);
            looks.take(other.looks);
            room = other.room;
            open(other.opens, other.closes);
            candidates = other.candidates;
            copyRow(other.from, from);
            copyRow(other.to, to);
        }

        /** LEFT. */
        private int leftAfter(int thing, int b, int a) {
            int beginning = at(things.beginning, thing);
            int pace = at(things.pace, thing);
            switch (at(things.law, thing)) {
                case EVEN:
                    return Math.max(0, beginning - pace * a);
                case STEPS:
                    return Math.max(0, beginning - pace * 10 * (a / 10));
                case WHILE:
                    return Math.max(0, beginning - pace * minutesInWindow(b, b + a - 1));
                case TOWARD:
                    return nearing(beginning, pace, pace, b, b + a);
                case DAMP:
                    return nearing(beginning, pace, Math.min(100, 2 * pace), b, b + a);
                default:
                    return beginning;
            }
        }

        private int minutesInWindow(int first, int last) {
            return Math.max(0, Math.min(last, closes) - Math.max(first, opens) + 1);
        }

        private boolean inWindow(int minute) {
            return minute >= opens && minute <= closes;
        }

        private int nearing(int beginning, int outside, int inside, int b, int end) {
            int left = beginning;
            for (int minute = b; minute < end; minute++) {
                int moved = nearer(left, inWindow(minute) ? inside : outside);
                if (moved == left && nearer(left, inside) == left) {
                    // What the quicker pace does not move, the slower one does not move either.
                    return left;
                }
                left = moved;
            }
            return left;
        }

        private int nearer(int left, int hundredths) {
            return left + (room - left) * hundredths / 100;
        }

        /** For each MINUTE b not later than a MINUTE told: LEFT then of a THING that began at b. */
        private void fillLefts(int thing, int minute) {
            if (at(things.law, thing) == TOWARD) {
                fillToward(thing, minute);
                return;
            }
            for (int b = 0; b <= minute && b < MINUTES; b++) {
                lay(lefts, b, leftAfter(thing, b, minute - b));
            }
        }

        /** TOWARD does not ask when it began: a MINUTE earlier is a step more. */
        private void fillToward(int thing, int minute) {
            int left = at(things.beginning, thing);
            for (int b = minute; b >= 0; b--) {
                lay(lefts, b, left);
                left = nearer(left, at(things.pace, thing));
            }
        }
    }

    /** Which LOOKS speak against each MINUTE of each THING, as bits; found once and kept till ROOM or WINDOW change. */
    private static final class Against {
        private final int[] bits = new int[THINGS * MINUTES];
        private int learned;

        private void forget() {
            if (learned == 0) {
                return;
            }
            learned = 0;
            for (int i = 0; i < bits.length; i++) {
                bits[i] = 0;
            }
        }

        private void learn(World world) {
            for (int k = learned; k < world.looks.count; k++) {
                learnLook(world, k);
            }
            learned = world.looks.count;
        }

        private void learnLook(World world, int k) {
            int thing = at(world.looks.thing, k);
            int minute = at(world.looks.minute, k);
            int low = at(world.looks.low, k);
            int high = at(world.looks.high, k);
            world.fillLefts(thing, minute);
            for (int b = 0; b < MINUTES; b++) {
                int left = at(world.lefts, b);
                if (b > minute || left < low || left > high) {
                    int i = thing * MINUTES + b;
                    lay(bits, i, at(bits, i) | 1 << k);
                }
            }
        }

        /** Those that are not DOUBTED. */
        private int speaking(World world, int thing, int b) {
            return at(bits, thing * MINUTES + b) & ~world.looks.doubted;
        }
    }

    /** How numbers of MINUTES are brought together: those of one THING, and those of several. */
    private abstract static class Reckoning {
        abstract long none();

        abstract long both(long one, long other);

        abstract void load(long[] rows, int start);

        abstract long over(int low, int high);

        final long within(int low, int high) {
            int first = Math.max(0, low);
            int last = Math.min(LAST, high);
            return first > last ? none() : over(first, last);
        }
    }

    /** How many WAYS there are. */
    private static final class Counting extends Reckoning {
        private final long[] before = new long[MINUTES + 1];

        long none() {
            return 0;
        }

        long both(long one, long other) {
            return one * other;
        }

        void load(long[] rows, int start) {
            long sum = 0;
            for (int b = 0; b < MINUTES; b++) {
                sum += at(rows, start + b);
                lay(before, b + 1, sum);
            }
        }

        long over(int low, int high) {
            return at(before, high + 1) - at(before, low);
        }
    }

    /** What the cheapest WAY costs: the least of 1, 2, 4 .. 256 MINUTES from each on is kept. */
    private static final class Least extends Reckoning {
        private static final int LEVELS = 9;
        private final long[] kept = new long[LEVELS * MINUTES];

        long none() {
            return IMPOSSIBLE;
        }

        long both(long one, long other) {
            return Math.min(IMPOSSIBLE, one + other);
        }

        void load(long[] rows, int start) {
            for (int b = 0; b < MINUTES; b++) {
                lay(kept, b, at(rows, start + b));
            }
            for (int i = MINUTES; i < kept.length; i++) {
                int half = i - MINUTES;
                int span = 1 << (half / MINUTES);
                long here = at(kept, half);
                long there = i % MINUTES + span < MINUTES ? at(kept, half + span) : here;
                lay(kept, i, Math.min(here, there));
            }
        }

        long over(int low, int high) {
            int level = 31 - Integer.numberOfLeadingZeros(high - low + 1);
            int start = level * MINUTES;
            return Math.min(at(kept, start + low), at(kept, start + high + 1 - (1 << level)));
        }
    }

    /**
     * A number for each MINUTE of each THING, and how they are brought to one THING along the JOININGS.
     * Each THING is joined to a lesser one at most, so JOININGS make trees, and nothing comes twice.
     */
    private static final class Gathering {
        private final long[] rows = new long[THINGS * MINUTES];
        private final int[] path = new int[THINGS];
        private int pathLength;

        private void set(int thing, int b, long number) {
            lay(rows, thing * MINUTES + b, number);
        }

        private long value(int thing, int b) {
            return at(rows, thing * MINUTES + b);
        }

        private long together(int thing, Reckoning how) {
            how.load(rows, thing * MINUTES);
            return how.over(0, LAST);
        }

        private void gather(Things things, int goal, Reckoning how) {
            findPath(things, goal);
            for (int t = things.count - 1; t > 0; t--) {
                if (at(things.joined, t) >= 0 && !onPath(t)) {
                    bring(things, t, true, how);
                }
            }
            // Along the path the JOININGS are gone against their way, from its far end to the goal.
            for (int i = pathLength - 1; i > 0; i--) {
                bring(things, at(path, i - 1), false, how);
            }
            int farEnd = at(path, pathLength - 1);
            for (int t = 0; t < things.count; t++) {
                if (at(things.joined, t) < 0 && t != farEnd) {
                    bringAll(t, goal, how);
                }
            }
        }

        /** The goal, the THING that it is joined to, the one that this is joined to, and so on. */
        private void findPath(Things things, int goal) {
            pathLength = 0;
            int t = goal;
            while (t >= 0 && pathLength < THINGS) {
                lay(path, pathLength, t);
                pathLength++;
                t = at(things.joined, t);
            }
        }

        private boolean onPath(int thing) {
            for (int i = 0; i < pathLength; i++) {
                if (at(path, i) == thing) {
                    return true;
                }
            }
            return false;
        }

        /** Over the JOINING of one THING: from it to the other one, or from that one to it. */
        private void bring(Things things, int thing, boolean fromIt, Reckoning how) {
            int other = at(things.joined, thing);
            int to = fromIt ? other : thing;
            how.load(rows, (fromIt ? thing : other) * MINUTES);
            for (int b = 0; b < MINUTES; b++) {
                long more = how.within(things.lowest(thing, b, fromIt), things.highest(thing, b, fromIt));
                set(to, b, how.both(value(to, b), more));
            }
        }

        /** From a THING that no JOINING binds to the goal. */
        private void bringAll(int from, int goal, Reckoning how) {
            long all = together(from, how);
            for (int b = 0; b < MINUTES; b++) {
                set(goal, b, how.both(value(goal, b), all));
            }
        }
    }
}
