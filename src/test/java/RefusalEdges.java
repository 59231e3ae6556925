import java.util.ArrayList;
import java.util.List;

/**
 * REFUSALS: each one that a promise names, at its edge and far beyond it, and each order in which two fit at once; in an
 * object with nothing in it, with some of all, and in a full one. A refused call answers its number, is counted once, and
 * changes nothing else: all that a twin tells to which nothing was refused is the same.
 */
public final class RefusalEdges extends Due {
    private static final int LEAST = Integer.MIN_VALUE;
    private static final int MOST = Integer.MAX_VALUE;

    interface Call {
        long on(BurnedDown x);
    }

    record Refused(String call, int number, Call made) { }

    enum State { EMPTY, SOME, FULL }

    private static final List<Refused> LIST = new ArrayList<>();

    private static void add(int number, String call, Call made) {
        LIST.add(new Refused(call, number, made));
    }

    private static BurnedDown make(State state) {
        BurnedDown x = new BurnedDown();
        if (state == State.EMPTY) return x;
        String[] texts = {"w500,5", "t1000,10", "e1000,1", "d900,10", "k5,5", "s400,1"};
        int things = state == State.SOME ? 3 : 6;
        for (int t = 0; t < things; t++) due("thing", thing(x, texts[t]), t);
        x.window(100, 120);
        x.room(300);
        x.candidate(0, 50);
        x.look(0, 250, 450, 470);
        x.look(1, 280, 300, 900);
        x.join(1, 0, 1, 20);
        x.join(2, 1, 3, 30);
        x.doubt(1, true);
        if (state == State.FULL) {
            x.candidate(200, 205);
            x.candidate(299, 299);
            x.candidate(10, 140);
            for (int k = 2; k < 10; k++) due("look", x.look(k % 6, 299 - k, k, 9999 - k), k);
            x.join(4, 2, 2, 1);
            x.join(5, 4, 0, 0);
            x.doubt(9, true);
        }
        x.image();
        x.doubt(0, true);
        x.join(2, 0, 3, 40);
        x.room(250);
        x.window(90, 130);
        feedText(x, state == State.FULL ? "k1234,5 and so on .." : "k12");
        int[] row = {101, 130, 120, 7, 119, 119};
        for (int i = 0; i < things - (state == State.SOME ? 1 : 0); i++) x.put(row[i]);
        return x;
    }

    private static void tellEachThing(BurnedDown x, List<Long> told) {
        int things = x.count(0);
        for (int t = 0; t < things; t++) {
            for (int what = 0; what < 3; what++) told.add((long) x.thingOf(t, what));
            for (int b : new int[] {0, 95, 125}) {
                for (int a : new int[] {9, 30}) told.add((long) x.left(t, b, a));
            }
            for (int b : new int[] {0, 102, 299}) told.add((long) x.can(t, b));
            told.add((long) x.alone(t));
            told.add((long) x.may(t));
            told.add((long) x.run(t, 0, 0));
            told.add((long) x.run(t, 0, 1));
            told.add(x.chance(t, 110, 0));
            told.add(x.chance(t, 110, 1));
            told.add((long) x.narrow(t, 290));
            for (int other = 0; other < t; other++) told.add((long) x.ahead(t, other));
        }
    }

    private static void tellAll(BurnedDown x, List<Long> told) {
        for (int what = 0; what <= 6; what++) told.add((long) x.count(what));
        tellEachThing(x, told);
        told.add(x.ways());
        told.add((long) x.doubts());
        told.add((long) x.opened());
        told.add((long) x.hangs());
        told.add((long) x.next(290));
        int room = x.room(0);
        told.add((long) room);
        x.room(room);
    }

    /** What can be asked of it: the state, the row, THE TAPE, THE IMAGE. */
    private static List<Long> tell(BurnedDown x, State state) {
        List<Long> told = new ArrayList<>();
        tellAll(x, told);
        if (state == State.SOME) x.put(99);
        told.add((long) x.judge());
        if (state == State.SOME) {
            feedText(x, "3,45");
            told.add((long) x.thing());
            told.add((long) x.thingOf(3, 1));
            told.add((long) x.thingOf(3, 2));
        }
        if (state == State.EMPTY) return told;
        told.add((long) x.on());
        tellAll(x, told);
        if (state == State.FULL) {
            x.room(200);
            told.add((long) x.doubt(0, true));
            told.add(x.ways());
        }
        return told;
    }

    private static int[] refusals(BurnedDown x) {
        int[] counts = new int[6];
        for (int i = 0; i < 6; i++) counts[i] = x.count(11 + i);
        return counts;
    }

    private static void each(State state) {
        List<Long> twin = tell(make(state), state);
        for (Refused refused : LIST) {
            says("REFUSALS, " + state + ", " + refused.call());
            BurnedDown x = make(state);
            int[] before = refusals(x);
            due("the number", refused.made().on(x), refused.number());
            due("the number again", refused.made().on(x), refused.number());
            int[] after = refusals(x);
            for (int i = 0; i < 6; i++) due("count " + (11 + i), after[i] - before[i], i + 1 == -refused.number() ? 2 : 0);
            due("nothing changes", tell(x, state).equals(twin) ? 1 : 0, 1);
        }
        LIST.clear();
    }

    private static void nobody(int t) {
        for (int what : new int[] {0, -1, 3}) add(-1, "thingOf " + t + " " + what, x -> x.thingOf(t, what));
        for (int m : new int[] {0, -1, 300}) {
            add(-1, "left " + t + " " + m, x -> x.left(t, m, 0));
            add(-1, "left " + t + " 0 " + m, x -> x.left(t, 0, m));
            add(-1, "look " + t + " " + m, x -> x.look(t, m, 0, 0));
            add(-1, "can " + t + " " + m, x -> x.can(t, m));
            add(-1, "chance " + t + " " + m, x -> x.chance(t, m, 0));
            add(-1, "narrow " + t + " " + m, x -> x.narrow(t, m));
            add(-1, "join " + t + " n " + m, x -> x.join(t, 0, 0, m));
            add(-1, "join " + t + " to none, n " + m, x -> x.join(t, -1, 0, m));
        }
        add(-1, "look " + t + " below", x -> x.look(t, 0, 5, 4));
        add(-1, "look " + t + " above", x -> x.look(t, 0, 0, 10000));
        add(-1, "join " + t + " kind 4", x -> x.join(t, 0, 4, 0));
        add(-1, "alone " + t, x -> x.alone(t));
        add(-1, "may " + t, x -> x.may(t));
        add(-1, "run " + t, x -> x.run(t, 0, 0));
        add(-1, "run " + t + " what 2", x -> x.run(t, 0, 2));
        add(-1, "chance " + t + " part 2", x -> x.chance(t, 0, 2));
        add(-1, "ahead " + t + " 0", x -> x.ahead(t, 0));
        add(-1, "ahead 0 " + t, x -> x.ahead(0, t));
        add(-1, "ahead both " + t, x -> x.ahead(t, t));
    }

    private static void withoutAThing(State state) {
        for (int n : new int[] {0, -1, LEAST}) add(-4, "feed " + n, x -> x.feed(n, 'e'));
        for (int n : new int[] {9, 21, MOST}) add(-6, "feed " + n, x -> x.feed(n, 'e'));
        for (int v : new int[] {-1, LEAST}) {
            add(-4, "room " + v, x -> x.room(v));
            add(-4, "put " + v, x -> x.put(v));
            add(-4, "next " + v, x -> x.next(v));
        }
        for (int v : new int[] {10000, MOST}) add(-6, "room " + v, x -> x.room(v));
        for (int v : new int[] {300, MOST}) {
            add(-6, "put " + v, x -> x.put(v));
            add(-6, "next " + v, x -> x.next(v));
        }
        spans();
        int looks = state == State.EMPTY ? 0 : state == State.SOME ? 2 : 10;
        for (int k : new int[] {looks, -1, LEAST, MOST, 32 + looks}) {
            add(-1, "doubt " + k, x -> x.doubt(k, true));
            add(-1, "doubt not " + k, x -> x.doubt(k, false));
        }
        if (state == State.EMPTY) add(-3, "on", x -> x.on());
    }

    private static void spans() {
        int[][] below = {{-2, 0}, {-2, 300}, {LEAST, 0}, {0, -1}, {5, 4}, {299, 0}, {300, 299}, {MOST, 0}, {0, LEAST},
            {MOST, LEAST}};
        int[][] above = {{0, 300}, {299, 300}, {300, 300}, {0, MOST}, {MOST, MOST}};
        for (int[] s : below) {
            add(-4, "window " + s[0] + " " + s[1], x -> x.window(s[0], s[1]));
            add(-4, "candidate " + s[0] + " " + s[1], x -> x.candidate(s[0], s[1]));
        }
        add(-4, "candidate -1 0", x -> x.candidate(-1, 0));
        add(-4, "candidate -1 300", x -> x.candidate(-1, 300));
        for (int[] s : above) {
            add(-6, "window " + s[0] + " " + s[1], x -> x.window(s[0], s[1]));
            add(-6, "candidate " + s[0] + " " + s[1], x -> x.candidate(s[0], s[1]));
        }
    }

    private static void whatAndKind(int t) {
        for (int what : new int[] {-1, 3, LEAST, MOST}) add(-2, "thingOf " + t + " " + what, x -> x.thingOf(t, what));
        for (int what : new int[] {-1, 2, LEAST, MOST}) {
            for (int i : new int[] {0, -1, 300}) {
                add(-2, "run " + t + " " + i + " " + what, x -> x.run(t, i, what));
                add(-2, "chance " + t + " " + i + " " + what, x -> x.chance(t, i, what));
            }
        }
        for (int kind : new int[] {-1, 4, LEAST, MOST}) {
            for (int n : new int[] {0, -1, 300}) {
                if (t > 0) add(-2, "join " + t + " kind " + kind + " n " + n, x -> x.join(t, t - 1, kind, n));
            }
        }
    }

    private static void minutes(int t) {
        for (int m : new int[] {-1, LEAST}) {
            for (int other : new int[] {0, 300}) {
                add(-4, "left " + t + " b " + m, x -> x.left(t, m, other));
                add(-4, "left " + t + " a " + m, x -> x.left(t, other, m));
            }
            add(-4, "can " + t + " " + m, x -> x.can(t, m));
            add(-4, "chance " + t + " " + m, x -> x.chance(t, m, 1));
            add(-4, "narrow " + t + " " + m, x -> x.narrow(t, m));
            if (t > 0) add(-4, "join " + t + " n " + m, x -> x.join(t, 0, 3, m));
        }
        for (int m : new int[] {300, MOST}) {
            add(-6, "left " + t + " b " + m, x -> x.left(t, m, 0));
            add(-6, "left " + t + " a " + m, x -> x.left(t, 0, m));
            add(-6, "can " + t + " " + m, x -> x.can(t, m));
            add(-6, "chance " + t + " " + m, x -> x.chance(t, m, 1));
            add(-6, "narrow " + t + " " + m, x -> x.narrow(t, m));
            if (t > 0) add(-6, "join " + t + " n " + m, x -> x.join(t, 0, 3, m));
        }
    }

    private static void looks(int t) {
        int[][] below = {{-1, 0, 0}, {-1, 0, 10000}, {LEAST, 0, 0}, {0, -1, 0}, {300, -1, 0}, {0, LEAST, MOST}, {0, -2, -1},
            {0, 1, 0}, {300, 1, 0}, {0, 9999, 9998}, {0, 10001, 10000}, {0, MOST, LEAST}, {0, 0, -1}};
        int[][] above = {{300, 0, 0}, {MOST, 0, 0}, {0, 0, 10000}, {0, 10000, 10000}, {0, 0, MOST}, {0, MOST, MOST}};
        for (int[] l : below) add(-4, "look " + t + " " + l[0] + " " + l[1] + " " + l[2], x -> x.look(t, l[0], l[1], l[2]));
        for (int[] l : above) add(-6, "look " + t + " " + l[0] + " " + l[1] + " " + l[2], x -> x.look(t, l[0], l[1], l[2]));
    }

    private static void others(int t, int things) {
        for (int other : new int[] {t, t + 1, things, things + 1, -2, LEAST, MOST}) {
            add(-1, "join " + t + " to " + other, x -> x.join(t, other, 0, 0));
            add(-1, "join " + t + " to " + other + ", kind 4, n -1", x -> x.join(t, other, 4, -1));
        }
        add(-1, "ahead twice " + t, x -> x.ahead(t, t));
    }

    private static void full() {
        add(-6, "thing", x -> x.thing());
        add(-6, "candidate 0 0", x -> x.candidate(0, 0));
        for (int n : new int[] {1, 2, 8}) add(-6, "feed " + n, x -> x.feed(n, 'e'));
        add(-6, "put 0", x -> x.put(0));
        add(-6, "put 299", x -> x.put(299));
        for (int t = 0; t < 6; t++) {
            int thing = t;
            add(-6, "look " + t, x -> x.look(thing, 0, 0, 0));
        }
    }

    public static void main(String[] args) {
        for (State state : State.values()) {
            int things = state.ordinal() * 3;
            for (int t : new int[] {things, -1, 6, LEAST, MOST}) nobody(t);
            withoutAThing(state);
            for (int t = 0; t < things; t += things - 1) {
                whatAndKind(t);
                minutes(t);
                looks(t);
                others(t, things);
            }
            if (state == State.FULL) full();
            each(state);
        }
        end("RefusalEdges");
    }
}
