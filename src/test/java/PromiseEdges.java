/** Promises 1 to 28: each sentence of them that names an edge has a test of its own here, under its words. */
public final class PromiseEdges extends Due {
    private static final int LEAST = Integer.MIN_VALUE;
    private static final int MOST = Integer.MAX_VALUE;

    private static void noThings() {
        says("Promise 1: No THINGS");
        BurnedDown x = new BurnedDown();
        due("THINGS", x.count(0), 0);
        due("LOOKS", x.count(1), 0);
        due("DOUBTED", x.count(2), 0);
        due("JOININGS", x.count(3), 0);
        due("candidates", x.count(4), 0);
        due("THE TAPE", x.count(5), 0);
        due("the row", x.count(6), 0);
        for (int what = 11; what <= 16; what++) due("REFUSALS", x.count(what), 0);
        due("no IMAGE", x.on(), -3);
        due("ROOM", x.room(200), 200);
        due("WAYS", x.ways(), 1);
        due("JUDGED", x.judge(), -9);
        due("DOUBT", x.doubts(), 0);
        due("OPENED", x.opened(), -9);
        due("HANGS", x.hangs(), -9);
        due("NEXT", x.next(0), -9);
        due("FAULT", x.thing(), -20);
        due("another object has none", new BurnedDown().count(13), 0);
    }

    private static void objectsApart() {
        says("Promise 1: No THINGS, whatever another object has");
        BurnedDown other = six();
        between(other, 0, 1, 1);
        other.room(5);
        other.window(1, 2);
        other.candidate(1, 2);
        other.image();
        other.feed(3, 0x312C31);
        other.put(7);
        noThings();
        due("the other keeps its own", other.ways(), 300L * 300 * 300 * 300 * 300);
    }

    private static void lastOfAllCalls() {
        says("An object is used for at most 512 calls after it has been made");
        BurnedDown x = new BurnedDown();
        for (int i = 0; i < 511; i++) due("put", x.put(-1), -4);
        due("the 512th", x.count(14), 511);
        x = with("k5,5");
        for (int i = 2; i < 510; i++) x.room(i);
        due("the 511th", x.room(0), 509);
        due("the 512th", x.ways(), 300);
    }

    private static void bytesComeLowestFirst() {
        says("Promise 2: n (1 .. 8) bytes come, the lowest first: how many THE TAPE has");
        long word = 0x35342C3332313064L; // d0123,45
        for (int n = 1; n <= 8; n++) {
            BurnedDown x = new BurnedDown();
            int has = 0;
            for (int i = 0; i < 8; i += n) {
                int now = Math.min(n, 8 - i);
                has += now;
                due("feed of " + now, x.feed(now, word >>> 8 * i), has);
            }
            due("thing", x.thing(), 0);
            due("LAW", x.thingOf(0, 0), 4);
            due("BEGINNING", x.thingOf(0, 1), 123);
            due("PACE", x.thingOf(0, 2), 45);
        }
    }

    private static void bytesAboveN() {
        says("Promise 2: n bytes come (those above them do not)");
        for (long high : new long[] {-1L, Long.MIN_VALUE, 0x7F7F7F7F7F7F7F00L, 0x3030303030303000L}) {
            BurnedDown x = new BurnedDown();
            for (char c : "k7,1".toCharArray()) x.feed(1, high & ~255L | c);
            due("four", x.count(5), 4);
            due("thing", x.thing(), 0);
            due("BEGINNING", x.thingOf(0, 1), 7);
        }
        for (int b = 128; b < 256; b++) {
            BurnedDown x = new BurnedDown();
            x.feed(1, b);
            due("a byte of 128 and more is one byte", x.count(5), 1);
            due("and no LAW, even without its highest bit", x.thing(), -20);
        }
        BurnedDown x = new BurnedDown();
        due("eight bytes, the highest bit set", x.feed(8, -1L), 8);
        due("thing", x.thing(), -20);
    }

    private static void feedEnds() {
        says("Promise 2: -4; -6 (n; above 20)");
        for (int has = 0; has <= 20; has++) {
            for (int n = 0; n <= 9; n++) {
                BurnedDown x = new BurnedDown();
                for (int i = 0; i < has; i++) x.feed(1, 'e');
                int want = n < 1 ? -4 : n > 8 || has + n > 20 ? -6 : has + n;
                due("feed of " + n + " to " + has, x.feed(n, -1L), want);
                due("THE TAPE", x.count(5), Math.max(has, want));
            }
        }
    }

    private static void tapeHasNoneThen() {
        says("Promise 3: THE TAPE becomes a THING, and has none: its number");
        BurnedDown x = new BurnedDown();
        for (int t = 0; t < 6; t++) {
            feedText(x, "s" + t + "00" + t + "," + t + t);
            due("before", x.count(5), 8);
            due("its number", x.thing(), t);
            due("none", x.count(5), 0);
        }
        for (int t = 0; t < 6; t++) {
            due("LAW", x.thingOf(t, 0), 2);
            due("BEGINNING", x.thingOf(t, 1), 1001 * t);
            due("PACE", x.thingOf(t, 2), 11 * t);
        }
    }

    private static void faultIsNotCounted() {
        says("Promise 3: if it has a FAULT, -20 less its place (nothing is counted; THE TAPE has none, too)");
        String[] texts = {"", "x", "e", "e1", "e12", "e123", "e1234", "e1234,", "e1234,1x", "e1234,12x", "e1,12345678901234567"};
        int[] places = {0, 0, 1, 2, 3, 4, 5, 6, 7, 8, 5};
        for (int i = 0; i < texts.length; i++) {
            BurnedDown x = with(PLAIN);
            due("'" + texts[i] + "'", thing(x, texts[i]), -20 - places[i]);
            due("THE TAPE has none", x.count(5), 0);
            due("no THING more", x.count(0), 1);
            for (int what = 11; what <= 16; what++) due("count " + what, x.count(what), 0);
            due("the next is read for itself", thing(x, "k1,2"), 1);
            due("its PACE", x.thingOf(1, 2), 2);
        }
    }

    private static void sixthAndSeventhThing() {
        says("Promise 3: -6 6. (Refused: THE TAPE stays.)");
        for (String tape : new String[] {"", "k5,5", "x", "e1,1e1,1e1,1e1,1e1,1"}) {
            BurnedDown x = new BurnedDown();
            x.image();
            for (int t = 0; t < 6; t++) due("thing", thing(x, PLAIN), t);
            feedText(x, tape);
            for (int i = 1; i <= 2; i++) {
                due("a seventh of '" + tape + "'", x.thing(), -6);
                due("counted", x.count(16), i);
                due("THE TAPE stays", x.count(5), tape.length());
                due("THINGS", x.count(0), 6);
            }
            x.on();
            due("what stayed", x.thing(), tape.isEmpty() || tape.equals("x") ? -20 : tape.length() == 4 ? 0 : -24);
        }
    }

    private static void whatOfAThing() {
        says("Promise 4: 0 LAW (0 e, 1 t, 2 s, 3 w, 4 d, 5 k), 1 BEGINNING, 2 PACE. -1; -2");
        BurnedDown x = with("e0000,00", "t9999,99", "s10,1", "w1,10", "d0,99", "k9999,0");
        int[][] due = {{0, 0, 0}, {1, 9999, 99}, {2, 10, 1}, {3, 1, 10}, {4, 0, 99}, {5, 9999, 0}};
        for (int t = 0; t < 6; t++) {
            for (int what = -2; what <= 5; what++) {
                due(t + " " + what, x.thingOf(t, what), what < 0 || what > 2 ? -2 : due[t][what]);
            }
        }
        due("6", x.thingOf(6, 0), -1);
        due("-1", x.thingOf(-1, 0), -1);
    }

    private static void roomThatWas() {
        says("Promise 5: ROOM: what it was. -4; -6");
        BurnedDown x = new BurnedDown();
        int was = 200;
        for (int v : new int[] {200, 0, 0, 1, 9998, 9999, 9999, 5}) {
            due("room " + v, x.room(v), was);
            due("below", x.room(-1), -4);
            due("above", x.room(10000), -6);
            was = v;
        }
    }

    private static void noWindowWhateverToIs() {
        says("Promise 6: The WINDOW (from -1: none, whatever to is): 1");
        BurnedDown x = with("w999,1");
        for (int to : new int[] {LEAST, -2, -1, 0, 5, 299, 300, MOST}) {
            due("a window", x.window(0, 298), 1);
            due("it is open", x.left(0, 0, 299), 700);
            due("none, to " + to, x.window(-1, to), 1);
            due("none", x.left(0, 0, 299), 999);
        }
        for (int what = 11; what <= 16; what++) due("nothing is refused", x.count(what), 0);
    }

    private static void windowInPlace() {
        says("Promise 6: The WINDOW: 1. -4 (to below from, too); -6 299 (refused, the one there was stays)");
        BurnedDown x = with("w999,1");
        due("10 .. 19", x.window(10, 19), 1);
        due("to below from", x.window(5, 4), -4);
        due("from below", x.window(-2, 20), -4);
        due("to above", x.window(5, 300), -6);
        due("10 .. 19 stays", x.left(0, 0, 299), 989);
        due("another in its place", x.window(19, 19), 1);
        due("alone", x.left(0, 0, 299), 998);
        due("19 .. 19", x.left(0, 19, 1), 998);
        due("none", x.window(-1, 0), 1);
        due("to below from", x.window(299, 298), -4);
        due("none stays", x.left(0, 0, 299), 999);
    }

    private static void candidateMore() {
        says("Promise 7: A candidate more: how many. -4 (to below from, too); -6 (299; 4, too)");
        BurnedDown x = with("w999,1");
        x.look(0, 0, 999, 999);
        for (int i = 1; i <= 4; i++) {
            due("below", x.candidate(-1, 5), -4);
            due("to below from", x.candidate(5, 4), -4);
            due("above", x.candidate(5, 300), -6);
            due("candidate", x.candidate(299 - i, 299), i);
            due("how many", x.count(4), i);
        }
        due("a fifth", x.candidate(0, 299), -6);
        due("below before the fifth", x.candidate(-1, 299), -4);
        due("to below from before the fifth", x.candidate(1, 0), -4);
        due("four", x.count(4), 4);
        int[] seen = {0, 0, 1, 2, 3};
        for (int i = 1; i <= 4; i++) {
            int look = x.look(0, 299, 999 - i, 999 - i);
            due("the candidate " + (i - 1), x.opened(), seen[i]);
            x.doubt(look, true);
        }
    }

    private static void leftEitherMinute() {
        says("Promise 8: LEFT. -1; -4; -6 (299 either)");
        BurnedDown x = with("e9999,1");
        int[] minutes = {LEAST, -1, 0, 1, 298, 299, 300, MOST};
        for (int b : minutes) {
            for (int a : minutes) {
                int want = b < 0 || a < 0 ? -4 : b > 299 || a > 299 ? -6 : 9999 - a;
                due("left " + b + " " + a, x.left(0, b, a), want);
                due("no such THING", x.left(1, b, a), -1);
                due("no such THING", x.left(-1, b, a), -1);
            }
        }
    }

    private static void lookMore() {
        says("Promise 9: A LOOK more: its number. -1; -4 (high below low, too); -6 (299; 9999; 10, too)");
        BurnedDown x = with("k0,1", "k9999,1");
        int[][] looks = {{0, 0, 0, 0}, {0, 299, 0, 0}, {0, 0, 0, 9999}, {0, 299, 0, 9999}, {1, 0, 9999, 9999}, {1, 299, 9999, 9999},
            {1, 0, 0, 9999}, {0, 1, 0, 1}, {1, 298, 9998, 9999}, {1, 299, 1, 9999}};
        for (int k = 0; k < 10; k++) {
            due("minute below", x.look(0, -1, 0, 0), -4);
            due("high below low", x.look(0, 0, 1, 0), -4);
            due("low below", x.look(0, 0, -1, 0), -4);
            due("minute above", x.look(0, 300, 0, 0), -6);
            due("high above", x.look(0, 0, 0, 10000), -6);
            due("nobody", x.look(2, 0, 0, 0), -1);
            due("its number", x.look(looks[k][0], looks[k][1], looks[k][2], looks[k][3]), k);
        }
        due("an eleventh", x.look(0, 0, 0, 0), -6);
        due("ten", x.count(1), 10);
        due("all fit", x.ways(), 1);
    }

    private static void doubtedOrNot() {
        says("Promise 10: DOUBTED, or not: 1; 0 it was so. -1");
        BurnedDown x = with(PLAIN);
        for (int k = 0; k < 10; k++) {
            due("not yet there", x.doubt(k, true), -1);
            due("not yet there", x.doubt(k, false), -1);
            between(x, 0, k, k);
        }
        due("-1", x.doubt(-1, true), -1);
        due("10", x.doubt(10, true), -1);
        for (int k = 0; k < 10; k++) {
            due("it was so", x.doubt(k, false), 0);
            due("DOUBTED", x.doubt(k, true), 1);
            due("it was so", x.doubt(k, true), 0);
            due("how many", x.count(2), k + 1);
        }
        for (int k = 9; k >= 0; k--) {
            due("not", x.doubt(k, false), 1);
            due("it was so", x.doubt(k, false), 0);
            due("how many", x.count(2), k);
        }
    }

    private static void joiningInPlace() {
        says("Promise 11: A JOINING in place of the one there was");
        BurnedDown x = with(PLAIN, PLAIN, PLAIN);
        due("to 0", x.join(2, 0, 0, 299), 1);
        due("WAYS", x.ways(), 300);
        due("another other", x.join(2, 1, 0, 299), 1);
        due("WAYS", x.ways(), 300);
        due("by the new one", x.may(1), 1);
        due("not by the old one", x.may(0), 300);
        due("another n", x.join(2, 1, 0, 298), 1);
        due("WAYS", x.ways(), 600);
        due("another KIND", x.join(2, 1, 2, 298), 1);
        due("from", x.run(1, 0, 0), 298);
        due("one", x.count(3), 1);
        due("refused", x.join(2, 0, 4, 0), -2);
        due("refused", x.join(2, 0, 0, 300), -6);
        due("refused", x.join(2, 0, 0, -1), -4);
        due("refused", x.join(2, 2, 0, 0), -1);
        due("it stays", x.run(1, 0, 0), 298);
        due("WAYS", x.ways(), 3 * 300);
    }

    private static void joinedToNoneWhateverKindIs() {
        says("Promise 11: (other -1: none, whatever KIND and n are): 1");
        int[] any = {LEAST, -1, 0, 3, 4, 299, 300, MOST};
        for (int kind : any) {
            for (int n : any) {
                BurnedDown x = with(PLAIN, PLAIN);
                x.join(1, 0, 0, 299);
                due("none", x.join(1, -1, kind, n), 1);
                due("no JOINING", x.count(3), 0);
                due("WAYS", x.ways(), 90000);
                due("none again", x.join(1, -1, kind, n), 1);
                due("THING 0 to none", x.join(0, -1, kind, n), 1);
                due("no JOINING", x.count(3), 0);
                due("no such THING to none", x.join(2, -1, kind, n), -1);
            }
        }
    }

    private static void otherNotLess() {
        says("Promise 11: -1 (other not less, too)");
        BurnedDown x = six();
        for (int t = 0; t < 6; t++) {
            for (int other : new int[] {t, t + 1, 5, 6, MOST, -2, LEAST}) {
                if (other >= t || other < -1) due(t + " to " + other, x.join(t, other, 3, 0), -1);
            }
        }
        due("none", x.count(3), 0);
    }

    private static void howManyAlone() {
        says("Promise 12: How many MINUTES ALONE. -1");
        BurnedDown x = new BurnedDown();
        due("no THINGS", x.alone(0), -1);
        for (int t = 0; t < 6; t++) {
            due("its number", thing(x, PLAIN), t);
            due("any", x.alone(t), 300);
            due("the next one is not there", x.alone(t + 1), -1);
        }
        due("-1", x.alone(-1), -1);
        between(x, 0, 1, 299);
        due("all but one", x.alone(0), 299);
        between(x, 0, 0, 1);
        due("one", x.alone(0), 1);
        between(x, 0, 0, 0);
        due("none", x.alone(0), 0);
        due("the others", x.alone(5), 300);
        due("counted", x.count(11), 8);
    }

    private static void canOrNot() {
        says("Promise 13: Whether a MINUTE is one of ALONE: 1, 0. -1; -4; -6 299");
        BurnedDown x = with(PLAIN, PLAIN);
        between(x, 0, 0, 100);
        between(x, 1, 200, 299);
        for (int m = -2; m <= 301; m++) {
            int refused = m < 0 ? -4 : m > 299 ? -6 : 0;
            due("0 at " + m, x.can(0, m), refused < 0 ? refused : m <= 100 ? 1 : 0);
            due("no such THING", x.can(2, m), -1);
        }
        x = with(PLAIN, PLAIN);
        between(x, 1, 200, 299);
        for (int m = 0; m < 300; m++) due("1 at " + m, x.can(1, m), m >= 200 ? 1 : 0);
        due("-1", x.can(-1, -1), -1);
    }

    private static void waysFromNoneToAll() {
        says("Promise 14: WAYS");
        BurnedDown x = new BurnedDown();
        due("without THINGS", x.ways(), 1);
        x.candidate(0, 0);
        x.window(0, 0);
        due("without THINGS", x.ways(), 1);
        x = six();
        due("the most", x.ways(), 729000000000000L);
        for (int t = 1; t < 6; t++) x.join(t, t - 1, 0, t < 5 ? 60 : 59);
        due("the least but none", x.ways(), 1);
        x.join(5, 4, 0, 60);
        due("none", x.ways(), 0);
        x.join(5, 0, 0, 299);
        due("a star", x.ways(), 1);
        x.image();
        x.on();
        due("none refused", x.count(11) + x.count(13), 0);
    }

    private static void mayHowMany() {
        says("Promise 15: How many MINUTES of MAY. -1");
        BurnedDown x = new BurnedDown();
        due("no THINGS", x.may(0), -1);
        x = six();
        for (int n = 0; n < 300; n += 13) {
            x.join(5, 0, 0, n);
            due("of 5", x.may(5), 300 - n);
            due("of 0", x.may(0), 300 - n);
            due("of 4", x.may(4), 300);
        }
        due("6", x.may(6), -1);
        due("-1", x.may(-1), -1);
        x.look(4, 0, 0, 0);
        due("none", x.may(4), 0);
        due("none of any", x.may(0), 0);
        due("counted", x.count(11), 2);
    }

    private static void runOfWhat() {
        says("Promise 16: RUN i: from (0), to (1); -9 none such. -1; -2");
        BurnedDown x = with(PLAIN);
        between(x, 0, 7, 9);
        due("from", x.run(0, 0, 0), 7);
        due("to", x.run(0, 0, 1), 9);
        due("what -1", x.run(0, 0, -1), -2);
        due("what 2", x.run(0, 0, 2), -2);
        due("RUN -1", x.run(0, -1, 0), -9);
        due("RUN 1", x.run(0, 1, 1), -9);
        due("THING 1", x.run(1, 0, 0), -1);
        between(x, 0, 8, 8);
        due("from", x.run(0, 0, 0), 8);
        due("to", x.run(0, 0, 1), 8);
        between(x, 0, 6, 6);
        due("none", x.run(0, 0, 0), -9);
        due("none", x.run(0, 0, 1), -9);
        due("-9 is not counted", x.count(11) + x.count(12), 3);
    }

    private static void partsOfChance() {
        says("Promise 17: CHANCE, part 0 above, 1 below the line. -1; -2; -4; -6 299");
        BurnedDown x = with(PLAIN, PLAIN);
        x.join(1, 0, 1, 0);
        for (int b = 0; b < 300; b++) {
            long g = gcd(300 - b, 45150);
            due("above " + b, x.chance(0, b, 0), (300 - b) / g);
            due("below " + b, x.chance(1, 299 - b, 1), 45150 / g);
        }
        BurnedDown y = with(PLAIN);
        due("part -1", y.chance(0, 0, -1), -2);
        due("part 2", y.chance(0, 0, 2), -2);
        due("minute -1", y.chance(0, -1, 0), -4);
        due("minute 300", y.chance(0, 300, 0), -6);
        due("THING 1", y.chance(1, 0, 0), -1);
        due("THING -1", y.chance(-1, 0, 1), -1);
    }

    private static long gcd(long a, long b) {
        return b == 0 ? a : gcd(b, a % b);
    }

    private static void minuteOfTheRow() {
        says("Promise 18: A MINUTE more of the row: how many. -4; -6 (299; 6, too)");
        BurnedDown x = six();
        for (int i = 1; i <= 6; i++) {
            due("below", x.put(-1), -4);
            due("above", x.put(300), -6);
            due("how many", x.put(i % 2 * 299), i);
            due("count", x.count(6), i);
        }
        due("a seventh", x.put(0), -6);
        due("a seventh, below", x.put(-1), -4);
        due("six", x.count(6), 6);
        for (int t = 0; t < 6; t++) between(x, t, (t + 1) % 2 * 299, (t + 1) % 2 * 299);
        due("each is as it was put", x.judge(), -9);
    }

    private static void rowHasNoneThen() {
        says("Promise 19: The row, which has none then, is JUDGED");
        BurnedDown x = with(PLAIN, PLAIN);
        x.join(1, 0, 0, 1);
        between(x, 0, 0, 9);
        due("none", x.judge(), 1000);
        due("too short", judged(x, 3), 1000);
        due("has none", x.count(6), 0);
        due("too long", judged(x, 3, 4, 5), 1001);
        due("has none", x.count(6), 0);
        due("a LOOK", judged(x, 10, 11), 100);
        due("has none", x.count(6), 0);
        due("a JOINING", judged(x, 5, 5), 1);
        due("has none", x.count(6), 0);
        due("all may be", judged(x, 5, 6), -9);
        due("has none", x.count(6), 0);
        due("six", judged(x, 5, 6, 5, 6, 5, 6), 1001);
        due("has none", x.count(6), 0);
        due("a new row", x.put(5), 1);
    }

    private static void doubtAsBits() {
        says("Promise 20: DOUBT (bits)");
        due("without THINGS", new BurnedDown().doubts(), 0);
        for (int k = 0; k < 10; k++) {
            BurnedDown x = six();
            for (int i = 0; i < 10; i++) {
                if (i == k) x.look(i % 6, 0, 0, 0);
                else between(x, i % 6, 0, 299);
            }
            due("LOOK " + k, x.doubts(), 1 << k);
            due("nothing is DOUBTED by it", x.count(2), 0);
            due("no WAYS still", x.ways(), 0);
            x.doubt(k, true);
            due("left out", x.doubts(), 0);
            due("WAYS", x.ways(), 729000000000000L);
        }
        BurnedDown x = with(PLAIN, PLAIN);
        x.join(1, 0, 1, 299);
        between(x, 0, 0, 0);
        between(x, 1, 299, 299);
        due("none needed", x.doubts(), 0);
        x.join(1, 0, 2, 299);
        due("both", x.doubts(), 3);
    }

    private static void openedOfCandidates() {
        says("Promise 21: OPENED; -9");
        BurnedDown x = with("w100,1", "d1000,10");
        due("no candidates", x.opened(), -9);
        x.look(0, 299, 100, 100);
        x.look(0, 150, 0, 9999);
        for (int i = 0; i < 4; i++) x.candidate(0, i == 2 ? 5 : 299);
        due("of several the first: all from 150 on are too late, all before it run down", x.opened(), 2);
        x.doubt(1, true);
        due("at 299 nothing is lost in any", x.opened(), 0);
        x.look(0, 299, 0, 0);
        due("none", x.opened(), -9);
        due("none is no REFUSAL", x.count(11) + x.count(13) + x.count(16), 0);
        due("the WINDOW is none, as it was", x.left(0, 0, 299), 100);
    }

    private static void hangsOrNone() {
        says("Promise 22: HANGS; -9");
        for (int t = 0; t < 6; t++) {
            BurnedDown x = six();
            between(x, t, 0, 298);
            due("on " + t, x.hangs(), t);
            x.doubt(0, true);
            due("on none", x.hangs(), -9);
            x.doubt(0, false);
            x.join(5, 0, 0, 299);
            due("without LOOKS of " + t + " there is one more or none", x.hangs(), t == 5 ? 5 : t == 0 ? -9 : t);
        }
    }

    private static void oneTwice() {
        says("Promise 23: -1 (one twice, too)");
        BurnedDown x = six();
        for (int t = 0; t < 6; t++) {
            due("twice", x.ahead(t, t), -1);
            due("6", x.ahead(t, 6), -1);
            due("6", x.ahead(6, t), -1);
            due("-1", x.ahead(t, -1), -1);
            due("-1", x.ahead(-1, t), -1);
        }
        due("counted", x.count(11), 30);
        x.look(0, 0, 0, 0);
        due("no WAYS is no REFUSAL", x.ahead(0, 1), -9);
        due("-1 without WAYS, too", x.ahead(1, 1), -1);
        due("counted", x.count(11), 31);
    }

    private static void narrowFromTo() {
        says("Promise 24: NARROW; -9. -1; -4; -6 299");
        BurnedDown x = with("k5,5", "e9999,1");
        between(x, 0, 0, 0);
        due("no WAYS", x.narrow(0, 299), -9);
        x.doubt(0, true);
        for (int m : new int[] {LEAST, -1, 0, 1, 298, 299, 300, MOST}) {
            int refused = m < 0 ? -4 : m > 299 ? -6 : 0;
            due("KEPT at " + m, x.narrow(0, m), refused < 0 ? refused : m + 1);
            due("EVEN at " + m, x.narrow(1, m), refused < 0 ? refused : 1);
            due("no such THING", x.narrow(2, m), -1);
            due("no such THING", x.narrow(-1, m), -1);
        }
        x.join(1, 0, 0, 299);
        due("none of these", x.narrow(1, 298), -9);
        due("one", x.narrow(1, 299), 1);
        due("one", x.narrow(0, 0), 1);
    }

    private static void nextFromTo() {
        says("Promise 25: NEXT; -9. -4; -6 299");
        BurnedDown x = new BurnedDown();
        BurnedDown y = with("k5,5", "e9999,1");
        y.join(1, 0, 0, 1);
        for (int m : new int[] {LEAST, -1, 0, 1, 2, 298, 299, 300, MOST}) {
            int refused = m < 0 ? -4 : m > 299 ? -6 : 0;
            due("without THINGS at " + m, x.next(m), refused < 0 ? refused : -9);
            due("at " + m, y.next(m), refused < 0 ? refused : m == 0 ? 0 : 1);
        }
        y.join(1, 0, 1, 299);
        due("0 alone", y.next(298), 0);
        due("both have one", y.next(299), 0);
        y.look(0, 0, 0, 0);
        due("no WAYS", y.next(299), -9);
        due("-9 is not counted", y.count(11) + y.count(13), 0);
    }

    private static void imageOfHowMany() {
        says("Promise 26: THE IMAGE is taken: how many THINGS");
        BurnedDown x = new BurnedDown();
        for (int t = 0; t <= 6; t++) {
            due("image", x.image(), t);
            due("image again", x.image(), t);
            due("on", x.on(), t);
            if (t < 6) thing(x, PLAIN);
        }
    }

    private static void onWithoutAnImage() {
        says("Promise 27: -3 there is none");
        BurnedDown x = six();
        for (int i = 1; i <= 3; i++) {
            due("none", x.on(), -3);
            due("counted", x.count(13), i);
        }
        due("nothing changes", x.count(0), 6);
        due("image", x.image(), 6);
        due("on", x.on(), 6);
        due("on again", x.on(), 6);
        due("counted", x.count(13), 3);
    }

    private static void allIsAsThen() {
        says("THE IMAGE: THINGS, ROOM, WINDOW, candidates, LOOKS, JOININGS; ON from it all is as then");
        BurnedDown x = with("w999,1", "t100,10");
        x.image();
        due("on", x.on(), 2);
        due("THINGS", thing(x, "d100,10"), 2);
        due("on", x.on(), 2);
        due("THINGS", x.count(0), 2);
        due("another THING", thing(x, "s50,1"), 2);
        due("its LAW", x.thingOf(2, 0), 2);
        x.on();
        x.room(0);
        x.on();
        due("ROOM", x.left(1, 0, 1), 110);
        x.window(0, 9);
        x.on();
        due("no WINDOW", x.left(0, 0, 299), 999);
        x.window(5, 9);
        x.image();
        x.window(-1, 0);
        x.on();
        due("WINDOW", x.left(0, 0, 299), 994);
        x.look(0, 299, 0, 0);
        due("no WAYS", x.ways(), 0);
        x.on();
        due("no LOOKS", x.count(1), 0);
        due("WAYS", x.ways(), 90000);
        x.join(1, 0, 0, 299);
        due("one WAY", x.ways(), 1);
        x.on();
        due("no JOININGS", x.count(3), 0);
        due("WAYS", x.ways(), 90000);
    }

    private static void candidatesAreAsThen() {
        says("THE IMAGE: candidates; ON from it all is as then");
        BurnedDown x = with("w999,1");
        x.look(0, 0, 999, 999);
        x.look(0, 299, 989, 989);
        due("candidate", x.candidate(0, 8), 1);
        x.image();
        due("candidate", x.candidate(0, 9), 2);
        due("OPENED", x.opened(), 1);
        x.on();
        due("one", x.count(4), 1);
        due("OPENED", x.opened(), -9);
        due("another one", x.candidate(0, 7), 2);
        due("OPENED", x.opened(), -9);
        due("candidate", x.candidate(10, 19), 3);
        due("OPENED", x.opened(), 2);
        due("candidate", x.candidate(20, 29), 4);
        x.on();
        for (int i = 2; i <= 4; i++) due("room for three again", x.candidate(i, i), i);
        due("OPENED", x.opened(), -9);
    }

    private static void looksAreAsThen() {
        says("THE IMAGE: LOOKS (those DOUBTED, too); ON from it all is as then");
        BurnedDown x = with(PLAIN, PLAIN);
        between(x, 0, 10, 19);
        between(x, 1, 10, 14);
        x.doubt(1, true);
        x.image();
        x.doubt(0, true);
        x.doubt(1, false);
        due("a LOOK more", between(x, 1, 3, 3), 2);
        x.doubt(2, true);
        due("WAYS", x.ways(), 1500);
        x.on();
        due("LOOKS", x.count(1), 2);
        due("DOUBTED", x.count(2), 1);
        due("WAYS", x.ways(), 3000);
        due("another LOOK", between(x, 0, 19, 25), 2);
        due("it is not DOUBTED", x.doubt(2, false), 0);
        due("WAYS", x.ways(), 300);
        due("not DOUBTED", x.doubt(1, false), 1);
        due("WAYS", x.ways(), 5);
        x.on();
        for (int k = 2; k < 10; k++) due("room for eight again", between(x, 0, 0, 299), k);
        due("full", between(x, 0, 0, 299), -6);
        due("WAYS", x.ways(), 3000);
    }

    private static void joiningsAreAsThen() {
        says("THE IMAGE: JOININGS; ON from it all is as then");
        BurnedDown x = with(PLAIN, PLAIN, PLAIN);
        x.join(2, 1, 1, 100);
        x.image();
        long ways = x.ways();
        int[][] changes = {{-1, 0, 0}, {0, 1, 100}, {1, 2, 100}, {1, 1, 101}, {1, 0, 5}};
        for (int[] c : changes) {
            x.join(2, c[0], c[1], c[2]);
            x.join(1, 0, 3, 5);
            x.on();
            due("one", x.count(3), 1);
            due("WAYS", x.ways(), ways);
            due("to 1", x.may(1), 200);
            due("from", x.run(2, 0, 0), 100);
        }
        due("a THING more", thing(x, PLAIN), 3);
        x.join(3, 0, 0, 299);
        x.on();
        due("a THING anew", thing(x, PLAIN), 3);
        due("has no JOINING", x.count(3), 1);
        due("WAYS", x.ways(), ways * 300);
    }

    private static void imageStaysAsThen() {
        says("ON from it all is as then (again and again, whatever comes between)");
        BurnedDown x = with(PLAIN);
        x.image();
        for (int i = 0; i < 3; i++) {
            between(x, 0, i, i);
            thing(x, "k5,5");
            x.join(1, 0, 0, 0);
            x.candidate(i, i);
            due("WAYS", x.ways(), 1);
            due("on", x.on(), 1);
            due("LOOKS", x.count(1), 0);
            due("candidates", x.count(4), 0);
            due("WAYS", x.ways(), 300);
        }
        between(x, 0, 5, 6);
        due("a later IMAGE", x.image(), 1);
        between(x, 0, 6, 7);
        due("WAYS", x.ways(), 1);
        x.on();
        due("the later one", x.ways(), 2);
    }

    private static void tapeAndRefusalsStay() {
        says("ON from it all is as then (THE TAPE and REFUSALS stay)");
        BurnedDown x = with(PLAIN);
        feedText(x, "k12");
        x.put(-1);
        x.image();
        feedText(x, "34,5");
        x.put(-1);
        x.put(300);
        x.alone(9);
        x.run(0, 0, 9);
        due("on", x.on(), 1);
        due("THE TAPE", x.count(5), 7);
        int[] refusals = {1, 1, 0, 2, 0, 1};
        for (int i = 0; i < 6; i++) due("count " + (11 + i), x.count(11 + i), refusals[i]);
        due("what was on THE TAPE", x.thing(), 1);
        due("its BEGINNING", x.thingOf(1, 1), 1234);
        due("on", x.on(), 1);
        due("an empty TAPE stays empty", x.count(5), 0);
    }

    private static void longsThatAreRefusals() {
        says("Longs that are REFUSALS are as they are");
        BurnedDown x = with(PLAIN);
        due("-1", x.chance(1, 0, 0), -1L);
        due("-2", x.chance(0, 0, 2), -2L);
        due("-4", x.chance(0, -1, 0), -4L);
        due("-6", x.chance(0, 300, 0), -6L);
        for (int what : new int[] {11, 12, 14, 16}) due("counted", x.count(what), 1);
    }

    private static void countOfAnother() {
        says("Promise 28: -9 for another what");
        BurnedDown x = six();
        for (int what : new int[] {7, 8, 9, 10, 17, 18, 100, -1, -6, -11, LEAST, MOST}) due("count " + what, x.count(what), -9);
        for (int what = 11; what <= 16; what++) due("nothing is refused", x.count(what), 0);
    }

    private static void countOfEach() {
        says("Promise 28: 0 THINGS, 1 LOOKS, 2 those DOUBTED, 3 JOININGS, 4 candidates, 5 bytes, 6 MINUTES of the row (each full)");
        BurnedDown x = six();
        for (int k = 0; k < 10; k++) between(x, 0, 0, 299);
        for (int k = 0; k < 10; k++) x.doubt(k, true);
        for (int t = 1; t < 6; t++) x.join(t, 0, 3, 299);
        for (int i = 0; i < 4; i++) x.candidate(0, 0);
        for (int i = 0; i < 20; i++) x.feed(1, 0);
        for (int i = 0; i < 6; i++) x.put(0);
        int[] counts = {6, 10, 10, 5, 4, 20, 6};
        for (int what = 0; what <= 6; what++) due("count " + what, x.count(what), counts[what]);
    }

    private static void countOfRefusals() {
        says("Promise 28: 11 .. 16 REFUSALS -1 .. -6");
        BurnedDown x = with(PLAIN);
        for (int i = 1; i <= 40; i++) {
            x.alone(1);
            if (i % 2 == 0) x.thingOf(0, 3);
            if (i % 4 == 0) x.on();
            if (i % 5 == 0) x.feed(0, 0);
            if (i % 8 == 0) x.feed(9, 0);
        }
        int[] counts = {40, 20, 10, 8, 0, 5};
        for (int i = 0; i < 6; i++) due("count " + (11 + i), x.count(11 + i), counts[i]);
    }

    public static void main(String[] args) {
        noThings();
        objectsApart();
        lastOfAllCalls();
        bytesComeLowestFirst();
        bytesAboveN();
        feedEnds();
        tapeHasNoneThen();
        faultIsNotCounted();
        sixthAndSeventhThing();
        whatOfAThing();
        roomThatWas();
        noWindowWhateverToIs();
        windowInPlace();
        candidateMore();
        leftEitherMinute();
        lookMore();
        doubtedOrNot();
        joiningInPlace();
        joinedToNoneWhateverKindIs();
        otherNotLess();
        howManyAlone();
        canOrNot();
        waysFromNoneToAll();
        mayHowMany();
        runOfWhat();
        partsOfChance();
        minuteOfTheRow();
        rowHasNoneThen();
        doubtAsBits();
        openedOfCandidates();
        hangsOrNone();
        oneTwice();
        narrowFromTo();
        nextFromTo();
        imageOfHowMany();
        onWithoutAnImage();
        allIsAsThen();
        candidatesAreAsThen();
        looksAreAsThen();
        joiningsAreAsThen();
        imageStaysAsThen();
        tapeAndRefusalsStay();
        longsThatAreRefusals();
        countOfAnother();
        countOfEach();
        countOfRefusals();
        end("PromiseEdges");
    }
}
