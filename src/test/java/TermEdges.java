/**
 * "Terms", II and III of the document: each sentence that names an edge has a test of its own here, under its words.
 */
public final class TermEdges extends Due {
    private static void minutesOfLeft() {
        says("MINUTES are 0 .. 299: left");
        BurnedDown x = with("e1000,1");
        due("b 0", x.left(0, 0, 0), 1000);
        due("b 299", x.left(0, 299, 0), 1000);
        due("a 299", x.left(0, 299, 299), 701);
        due("b -1", x.left(0, -1, 0), -4);
        due("b 300", x.left(0, 300, 0), -6);
        due("a -1", x.left(0, 0, -1), -4);
        due("a 300", x.left(0, 0, 300), -6);
    }

    private static void minutesOfAsking() {
        says("MINUTES are 0 .. 299: can, chance, narrow, next");
        BurnedDown x = with("k5,5");
        due("can 0", x.can(0, 0), 1);
        due("can 299", x.can(0, 299), 1);
        due("can -1", x.can(0, -1), -4);
        due("can 300", x.can(0, 300), -6);
        due("chance 0", x.chance(0, 0, 1), 300);
        due("chance 299", x.chance(0, 299, 1), 300);
        due("chance -1", x.chance(0, -1, 1), -4);
        due("chance 300", x.chance(0, 300, 1), -6);
        due("narrow 0", x.narrow(0, 0), 1);
        due("narrow 299", x.narrow(0, 299), 300);
        due("narrow -1", x.narrow(0, -1), -4);
        due("narrow 300", x.narrow(0, 300), -6);
        due("next 0", x.next(0), 0);
        due("next 299", x.next(299), 0);
        due("next -1", x.next(-1), -4);
        due("next 300", x.next(300), -6);
    }

    private static void minutesOfTelling() {
        says("MINUTES are 0 .. 299: look, put, window, candidate");
        BurnedDown x = with("k5,5");
        due("look 0", x.look(0, 0, 5, 5), 0);
        due("look 299", x.look(0, 299, 5, 5), 1);
        due("look -1", x.look(0, -1, 5, 5), -4);
        due("look 300", x.look(0, 300, 5, 5), -6);
        due("put 0", x.put(0), 1);
        due("put 299", x.put(299), 2);
        due("put -1", x.put(-1), -4);
        due("put 300", x.put(300), -6);
        due("window 0 .. 299", x.window(0, 299), 1);
        due("window -2 ..", x.window(-2, 299), -4);
        due("window .. 300", x.window(0, 300), -6);
        due("candidate 0 .. 299", x.candidate(0, 299), 1);
        due("candidate -1 ..", x.candidate(-1, 299), -4);
        due("candidate .. 300", x.candidate(0, 300), -6);
    }

    private static void thingsFromZero() {
        says("THINGS have numbers from 0 on (6 at most)");
        BurnedDown x = new BurnedDown();
        due("none yet", x.thingOf(0, 0), -1);
        for (int t = 0; t < 6; t++) {
            due("the number", thing(x, "e" + t + ",9"), t);
            due("it is there", x.thingOf(t, 1), t);
            due("the next is not", x.thingOf(t + 1, 1), -1);
        }
        due("a seventh", thing(x, "e9,9"), -6);
        due("none more", x.count(0), 6);
        due("the last one stands", x.thingOf(5, 1), 5);
    }

    private static void textOfTwenty() {
        says("each is read from a TEXT (20 bytes at most)");
        BurnedDown x = new BurnedDown();
        for (int i = 1; i <= 20; i++) due("byte " + i, x.feed(1, '1'), i);
        due("byte 21", x.feed(1, '1'), -6);
        due("all twenty", x.count(5), 20);
        for (int before = 12; before <= 19; before++) {
            x = new BurnedDown();
            feedText(x, "e1,1".repeat(5).substring(0, before));
            due("up to 20", x.feed(20 - before, 0), 20);
            x = new BurnedDown();
            feedText(x, "e1,1".repeat(5).substring(0, before));
            if (before > 12) due("up to 21", x.feed(21 - before, 0), -6);
        }
    }

    private static void beginningDigits() {
        says("BEGINNING (1 to 4 digits)");
        String[] numbers = {"0", "9", "00", "10", "99", "000", "100", "999", "0000", "0001", "1000", "9999"};
        for (String number : numbers) {
            BurnedDown x = with("t" + number + ",5");
            due("of " + number, x.thingOf(0, 1), Integer.parseInt(number));
            due("PACE behind " + number, x.thingOf(0, 2), 5);
        }
        BurnedDown x = new BurnedDown();
        due("no digit", thing(x, "t,5"), -21);
        due("five digits", thing(x, "t00000,5"), -25);
        due("nothing counted", x.count(0), 0);
    }

    private static void paceDigits() {
        says("PACE (1 to 2 digits)");
        for (int pace = 0; pace < 10; pace++) due("of one", with("t7," + pace).thingOf(0, 2), pace);
        for (int pace = 0; pace < 100; pace++) due("of two", with("t7," + pace / 10 + pace % 10).thingOf(0, 2), pace);
        BurnedDown x = new BurnedDown();
        due("no digit", thing(x, "t7,"), -23);
        due("three digits", thing(x, "t7,000"), -25);
        due("nothing counted", x.count(0), 0);
    }

    private static void faultOfEachByte() {
        says("FAULT: the place of the first byte that can not stand");
        for (int place = 0; place <= 8; place++) {
            for (int b = 0; b < 256; b++) {
                StringBuilder text = new StringBuilder("e1234,12");
                text.setLength(Math.max(8, place + 1));
                text.setCharAt(place, (char) b);
                due("byte " + b + " at " + place, thing(new BurnedDown(), text.toString()), faultWith(place, b));
            }
        }
    }

    private static int faultWith(int place, int b) {
        boolean digit = b >= '0' && b <= '9';
        boolean stands = place == 0 ? "etswdk".indexOf(b) >= 0 : place == 5 ? b == ',' : place < 8 && digit;
        if (stands) return 0;
        // A "," at 2, 3 or 4 can stand; then the "," at 5 is the first that can not.
        return -20 - (b == ',' && place >= 2 && place <= 4 ? 5 : place);
    }

    private static void faultAtTheEnd() {
        says("FAULT: (the end, if something lacks)");
        String whole = "d9876,54";
        for (int length = 0; length <= 8; length++) {
            int want = length < 7 ? -20 - length : 0;
            due(length + " bytes", thing(new BurnedDown(), whole.substring(0, length)), want);
        }
        due("e1", thing(new BurnedDown(), "e1"), -22);
        due("e1,", thing(new BurnedDown(), "e1,"), -23);
    }

    private static void laws() {
        says("LAWS: e EVEN, t TOWARD, s STEPS under EVEN, w WHILE under EVEN, d DAMP under TOWARD, k KEPT");
        BurnedDown x = with("e1000,2", "t1000,2", "s1000,2", "w1000,2", "d1000,2", "k1000,2");
        x.window(0, 3);
        int[] afterFive = {990, 925, 1000, 992, 868, 1000};
        for (int t = 0; t < 6; t++) {
            due("number " + t, x.thingOf(t, 0), t);
            due("LEFT " + t, x.left(t, 0, 5), afterFive[t]);
        }
        for (String letter : new String[] {"E", "T", "S", "W", "D", "K", "a", "f", "l", "z"}) {
            due(letter, thing(with(), letter + "1,1"), -20);
        }
    }

    private static void roomEnds() {
        says("ROOM (0 .. 9999; 200 at first)");
        BurnedDown x = with("t500,10");
        due("toward 200", x.left(0, 0, 1), 470);
        due("200 at first", x.room(0), 200);
        due("toward 0", x.left(0, 0, 1), 450);
        due("0 was", x.room(9999), 0);
        due("toward 9999", x.left(0, 0, 1), 1449);
        due("below", x.room(-1), -4);
        due("above", x.room(10000), -6);
        due("9999 stands", x.room(1), 9999);
    }

    private static void windowEnds() {
        says("WINDOW: from a MINUTE to another one (both in it; none at first)");
        BurnedDown x = with("w50,1", "d1200,10");
        for (int b = 0; b < 300; b++) due("none at first", x.left(0, b, 1), 50);
        int[][] windows = {{0, 0}, {299, 299}, {0, 299}, {10, 10}, {10, 11}, {150, 298}};
        for (int[] w : windows) {
            due("window", x.window(w[0], w[1]), 1);
            for (int b : new int[] {0, 1, 9, 10, 11, 12, 149, 150, 298, 299}) {
                boolean in = w[0] <= b && b <= w[1];
                due("WHILE at " + b, x.left(0, b, 1), in ? 49 : 50);
                due("DAMP at " + b, x.left(1, b, 1), in ? 1000 : 1100);
            }
        }
        due("none again", x.window(-1, 299), 1);
        due("none again", x.left(0, 0, 299), 50);
    }

    private static void even() {
        says("EVEN: BEGINNING less PACE times a, 0 at least");
        BurnedDown x = with("e9999,99", "e299,1", "e298,1", "e0,0", "e5,0", "e99,50");
        due("a 0", x.left(0, 299, 0), 9999);
        due("a 100", x.left(0, 0, 100), 99);
        due("just 0", x.left(0, 0, 101), 0);
        due("below 0", x.left(0, 0, 102), 0);
        due("1 left", x.left(1, 0, 298), 1);
        due("just 0", x.left(1, 0, 299), 0);
        due("below 0", x.left(2, 0, 299), 0);
        due("nothing to lose", x.left(3, 0, 299), 0);
        due("PACE 0", x.left(4, 0, 299), 5);
        due("49 left", x.left(5, 0, 1), 49);
        due("below 0", x.left(5, 0, 2), 0);
    }

    private static void steps() {
        says("STEPS: BEGINNING less 10 times PACE for each 10 whole ones of a, 0 at least");
        BurnedDown x = with("s290,1", "s289,1", "s9999,99", "s5,0", "s0,1");
        int[] minutes = {0, 9, 10, 19, 20, 29, 30, 289, 290, 299};
        int[] left = {290, 290, 280, 280, 270, 270, 260, 10, 0, 0};
        for (int i = 0; i < minutes.length; i++) due("after " + minutes[i], x.left(0, 299, minutes[i]), left[i]);
        due("9 left", x.left(1, 0, 289), 9);
        due("below 0", x.left(1, 0, 290), 0);
        due("99 left", x.left(2, 0, 109), 99);
        due("below 0", x.left(2, 0, 110), 0);
        due("below 0 by far", x.left(2, 0, 299), 0);
        due("PACE 0", x.left(3, 0, 299), 5);
        due("nothing to lose", x.left(4, 0, 10), 0);
    }

    private static void whiles() {
        says("WHILE: as EVEN, with those of MINUTES b .. b and a less 1 alone that are in the WINDOW");
        BurnedDown x = with("w100,10", "w100,1");
        x.window(50, 54);
        due("a 0 in it", x.left(0, 50, 0), 100);
        due("up to the one before", x.left(0, 40, 10), 100);
        due("up to the first", x.left(0, 40, 11), 90);
        due("up to the last", x.left(0, 40, 15), 50);
        due("up to the one behind", x.left(0, 40, 16), 50);
        due("from the first", x.left(0, 50, 299), 50);
        due("from the second", x.left(0, 51, 299), 60);
        due("from the last", x.left(0, 54, 1), 90);
        due("from the one behind", x.left(0, 55, 299), 100);
        x.window(50, 59);
        due("just 0", x.left(0, 50, 10), 0);
        x.window(50, 60);
        due("0 at least", x.left(0, 50, 11), 0);
        x.window(290, 299);
        due("behind 299 is none of it", x.left(1, 290, 299), 90);
        due("one MINUTE alone", x.left(1, 299, 299), 99);
        x.window(0, 299);
        due("as EVEN", x.left(1, 0, 99), 1);
        due("as EVEN", x.left(1, 0, 101), 0);
    }

    private static void kept() {
        says("KEPT: BEGINNING");
        BurnedDown x = with("k0,99", "k9999,99", "k1,0");
        int[] beginnings = {0, 9999, 1};
        x.window(0, 299);
        x.room(7);
        for (int t = 0; t < 3; t++) {
            due("a 0", x.left(t, 0, 0), beginnings[t]);
            due("a 299", x.left(t, 299, 299), beginnings[t]);
        }
    }

    private static void toward() {
        says("TOWARD: BEGINNING at first; then MINUTE by MINUTE nearer to ROOM by PACE hundredths (cut, without sign)");
        BurnedDown x = with("t299,1", "t300,1", "t399,1", "t101,1", "t100,1", "t1,1");
        int[] first = {299, 300, 399, 101, 100, 1};
        int[] second = {299, 299, 398, 101, 101, 2};
        for (int t = 0; t < 6; t++) {
            due("at first", x.left(t, 299, 0), first[t]);
            due("after one", x.left(t, 299, 1), second[t]);
        }
        x = with("t0,99", "t9999,99", "t200,99", "t5000,0", "t9999,50", "t0,50");
        int[][] left = {{198, 199, 199}, {298, 201, 201}, {200, 200, 200}, {5000, 5000, 5000}, {5100, 2650, 1425},
            {100, 150, 175}};
        for (int t = 0; t < 6; t++) {
            for (int a = 1; a <= 3; a++) due("THING " + t + " after " + a, x.left(t, 0, a), left[t][a - 1]);
        }
        due("never over it", x.left(1, 0, 299), 201);
        due("never over it", x.left(5, 0, 299), 199);
    }

    private static void damp() {
        says("DAMP: likewise, in MINUTES in the WINDOW by twice PACE hundredths (100 at most)");
        BurnedDown x = with("d1200,49", "d1200,50", "d1200,51", "d1200,99", "d0,50", "d1200,0");
        x.window(10, 10);
        int[] in = {220, 200, 200, 200, 200, 1200};
        int[] out = {710, 700, 690, 210, 100, 1200};
        for (int t = 0; t < 6; t++) {
            due("at first", x.left(t, 10, 0), t == 4 ? 0 : 1200);
            due("in it", x.left(t, 10, 1), in[t]);
            due("before it", x.left(t, 9, 1), out[t]);
            due("behind it", x.left(t, 11, 1), out[t]);
        }
        x = with("d299,1", "d249,1", "d260,1");
        x.window(0, 299);
        due("cut by twice", x.left(0, 0, 1), 298);
        due("cut by twice", x.left(1, 0, 1), 249);
        due("cut by twice", x.left(2, 0, 1), 259);
        x.window(-1, 0);
        due("cut by once", x.left(0, 0, 299), 299);
        due("cut by once", x.left(2, 0, 299), 260);
    }

    private static void tenLooks() {
        says("LOOKS (10 at most)");
        BurnedDown x = six();
        for (int k = 0; k < 10; k++) due("look", between(x, 5, k, 299 - k), k);
        due("an eleventh", between(x, 5, 50, 60), -6);
        due("the tenth is seen", x.alone(5), 282);
        due("from", x.run(5, 0, 0), 9);
        due("to", x.run(5, 0, 1), 290);
        x.doubt(9, true);
        due("the ninth is seen", x.alone(5), 284);
        due("the others", x.alone(4), 300);
    }

    private static void within() {
        says("a LOW and a HIGH: what was LEFT then was within");
        for (int shift = -2; shift <= 2; shift++) {
            BurnedDown x = with("k100,1", "k100,1", "k100,1");
            x.look(0, 299, 100 + shift, 9999);
            x.look(1, 299, 0, 100 + shift);
            x.look(2, 299, 100 + shift, 100 + shift);
            due("LOW", x.alone(0), shift <= 0 ? 300 : 0);
            due("HIGH", x.alone(1), shift >= 0 ? 300 : 0);
            due("both", x.alone(2), shift == 0 ? 300 : 0);
        }
        BurnedDown x = with("e9999,99", "k9999,0", "k0,0");
        x.look(0, 299, 0, 0);
        x.look(1, 299, 9999, 9999);
        x.look(2, 299, 0, 0);
        due("0 .. 0", x.alone(0), 199);
        due("9999 .. 9999", x.alone(1), 300);
        due("0 .. 0", x.alone(2), 300);
    }

    private static void notLaterThanTheLook() {
        says("can have begun at b by a LOOK, if b is its MINUTE or earlier");
        for (int minute : new int[] {0, 1, 150, 298, 299}) {
            BurnedDown x = with("k100,1", "e100,1");
            x.look(0, minute, 0, 9999);
            x.look(1, minute, 100, 100);
            due("alone", x.alone(0), minute + 1);
            due("at it", x.can(0, minute), 1);
            if (minute < 299) due("later", x.can(0, minute + 1), 0);
            due("at 0", x.can(0, 0), 1);
            due("LEFT at it", x.alone(1), 1);
            due("LEFT at it", x.can(1, minute), 1);
        }
    }

    private static void aloneWithout() {
        says("ALONE: by all its LOOKS (any of 0 .. 299 without)");
        BurnedDown x = six();
        for (int t = 0; t < 6; t++) {
            due("without", x.alone(t), 300);
            due("0", x.can(t, 0), 1);
            due("299", x.can(t, 299), 1);
        }
        between(x, 5, 299, 299);
        due("by a LOOK", x.alone(5), 1);
        due("by a LOOK", x.can(5, 299), 1);
        due("not 298", x.can(5, 298), 0);
        due("the others without", x.alone(4), 300);
        between(x, 4, 0, 0);
        between(x, 4, 1, 1);
        due("by all of them none", x.alone(4), 0);
    }

    private static void doubtedLeftOut() {
        says("DOUBTED LOOKS are left out (none at first)");
        BurnedDown x = with(PLAIN);
        for (int k = 0; k < 10; k++) between(x, 0, k, k);
        due("none at first", x.count(2), 0);
        due("none at first", x.alone(0), 0);
        for (int k = 0; k < 9; k++) x.doubt(k, true);
        due("one is left", x.alone(0), 1);
        due("the tenth", x.can(0, 9), 1);
        x.doubt(9, true);
        due("all are left out", x.alone(0), 300);
        x.doubt(0, false);
        due("the first again", x.alone(0), 1);
        due("the first again", x.can(0, 0), 1);
    }

    private static void joinedToALesserOne() {
        says("a THING (not 0) is joined to one of a lesser number (or to none, at first)");
        BurnedDown x = six();
        due("to none at first", x.count(3), 0);
        due("to none at first", x.ways(), 729000000000000L);
        for (int t = 0; t < 6; t++) {
            for (int other = 0; other < 7; other++) due(t + " to " + other, x.join(t, other, 3, 299), other < t ? 1 : -1);
        }
        due("five at most", x.count(3), 5);
        for (int t = 1; t < 6; t++) due("to none", x.join(t, -1, 0, 0), 1);
        due("none", x.count(3), 0);
    }

    private static void numberOfAJoining() {
        says("by a KIND and a number n (0 .. 299)");
        BurnedDown x = with(PLAIN, PLAIN);
        for (int kind = 0; kind <= 3; kind++) {
            due("n 0", x.join(1, 0, kind, 0), 1);
            due("n 299", x.join(1, 0, kind, 299), 1);
            due("n -1", x.join(1, 0, kind, -1), -4);
            due("n 300", x.join(1, 0, kind, 300), -6);
        }
        due("KIND -1", x.join(1, 0, -1, 5), -2);
        due("KIND 4", x.join(1, 0, 4, 5), -2);
    }

    private static boolean keeps(int kind, int n, int behind) {
        return kind == 0 ? behind == n : kind == 1 ? behind >= n : kind == 2 ? -behind >= n : Math.abs(behind) <= n;
    }

    /** THING 0 begins at one MINUTE: those of the one joined to it are told by RUNS, by MAY and by JUDGED. */
    private static void kind(int kind, String words) {
        says(words);
        for (int n : new int[] {0, 1, 149, 150, 298, 299}) {
            for (int at : new int[] {0, 1, 149, 150, 298, 299}) {
                BurnedDown x = with(PLAIN, PLAIN);
                between(x, 0, at, at);
                x.join(1, 0, kind, n);
                int from = 300;
                int to = -1;
                for (int b = 0; b < 300; b++) {
                    if (keeps(kind, n, b - at)) {
                        from = Math.min(from, b);
                        to = b;
                    }
                }
                String where = "n " + n + " at " + at;
                due(where + " may", x.may(1), Math.max(0, to - from + 1));
                due(where + " from", x.run(1, 0, 0), to < 0 ? -9 : from);
                due(where + " to", x.run(1, 0, 1), to < 0 ? -9 : to);
                for (int b : new int[] {0, 1, at - n - 1, at - n, at - n + 1, at + n - 1, at + n, at + n + 1, 298, 299}) {
                    if (b >= 0 && b < 300) due(where + " judged " + b, judged(x, at, b), keeps(kind, n, b - at) ? -9 : 1);
                }
            }
        }
    }

    private static void kinds() {
        kind(0, "0 JUST: it began n MINUTES behind that one");
        kind(1, "1 AFTER: n or more behind");
        kind(2, "2 BEFORE: n or more ahead of it");
        kind(3, "3 NEAR: n or fewer ahead or behind");
    }

    /** The same seen from the other end: the one that is joined begins at one MINUTE. */
    private static void kindsFromTheOtherEnd() {
        says("all JOININGS kept, seen from the one that another is joined to");
        for (int kind = 0; kind <= 3; kind++) {
            for (int n : new int[] {0, 1, 150, 298, 299}) {
                for (int at : new int[] {0, 1, 150, 298, 299}) {
                    BurnedDown x = with(PLAIN, PLAIN);
                    between(x, 1, at, at);
                    x.join(1, 0, kind, n);
                    int may = 0;
                    for (int b = 0; b < 300; b++) may += keeps(kind, n, at - b) ? 1 : 0;
                    due("kind " + kind + " n " + n + " at " + at, x.may(0), may);
                    due("ways", x.ways(), may);
                }
            }
        }
    }

    private static void waysWithoutThings() {
        says("WAYS: how many (a long; without THINGS 1)");
        BurnedDown x = new BurnedDown();
        due("without", x.ways(), 1);
        long ways = 1;
        for (int t = 0; t < 6; t++) {
            thing(x, PLAIN);
            ways *= 300;
            due("with " + (t + 1), x.ways(), ways);
        }
        due("more than an int holds", x.ways(), 729000000000000L);
        for (int t = 0; t < 6; t++) between(x, t, 299, 299);
        due("one alone", x.ways(), 1);
        between(x, 5, 298, 298);
        due("none", x.ways(), 0);
    }

    private static void mayInSomeWay() {
        says("MAY: MINUTES that a THING has in some WAY");
        BurnedDown x = six();
        for (int t = 0; t < 6; t++) due("all", x.may(t), 300);
        for (int t = 1; t < 6; t++) x.join(t, t - 1, 1, 59);
        for (int t = 0; t < 6; t++) {
            due("a chain of 295", x.may(t), 5);
            due("from", x.run(t, 0, 0), 59 * t);
            due("to", x.run(t, 0, 1), 59 * t + 4);
        }
        between(x, 5, 295, 295);
        for (int t = 0; t < 6; t++) due("one alone", x.may(t), 1);
        x.doubt(0, true);
        between(x, 0, 4, 4);
        for (int t = 0; t < 6; t++) due("one alone", x.run(t, 0, 0), 59 * t + 4);
        between(x, 5, 298, 298);
        for (int t = 0; t < 6; t++) due("none", x.may(t), 0);
    }

    private static void ithRun() {
        says("RUNS: of these MINUTES one behind another: the i-th from, to");
        BurnedDown x = six();
        for (int t = 0; t < 6; t++) {
            due("from", x.run(t, 0, 0), 0);
            due("to", x.run(t, 0, 1), 299);
            for (int i : new int[] {-1, 1, 2, 299, Integer.MIN_VALUE, Integer.MAX_VALUE}) {
                due("none such", x.run(t, i, 0), -9);
                due("none such", x.run(t, i, 1), -9);
            }
        }
        between(x, 0, 0, 0);
        between(x, 1, 299, 299);
        between(x, 2, 298, 299);
        due("0 .. 0", x.run(0, 0, 0), 0);
        due("0 .. 0", x.run(0, 0, 1), 0);
        due("299 .. 299", x.run(1, 0, 0), 299);
        due("299 .. 299", x.run(1, 0, 1), 299);
        due("298 .. 299", x.run(2, 0, 0), 298);
        due("298 .. 299", x.run(2, 0, 1), 299);
        due("none such", x.run(1, 1, 0), -9);
    }

    private static void chanceOfNone() {
        says("CHANCE: in least terms (0 by 1, if there are none with it)");
        BurnedDown x = six();
        between(x, 0, 0, 199);
        for (int b : new int[] {0, 199}) {
            due("with it", x.chance(0, b, 0), 1);
            due("with it", x.chance(0, b, 1), 200);
        }
        for (int b : new int[] {200, 299}) {
            due("none with it", x.chance(0, b, 0), 0);
            due("none with it", x.chance(0, b, 1), 1);
        }
        x.join(2, 1, 1, 0);
        due("least terms", x.chance(1, 0, 0), 2);
        due("least terms", x.chance(1, 0, 1), 301);
        due("least terms", x.chance(2, 298, 0), 299);
        due("least terms", x.chance(2, 298, 1), 45150);
        between(x, 5, 0, 0);
        due("1 by 1", x.chance(5, 0, 0), 1);
        due("1 by 1", x.chance(5, 0, 1), 1);
        between(x, 5, 1, 1);
        for (int t = 0; t < 6; t++) {
            due("no WAYS", x.chance(t, 0, 0), 0);
            due("no WAYS", x.chance(t, 0, 1), 1);
        }
    }

    private static void rowTooShortOrLong() {
        says("JUDGED: 1000 if it is too short, 1001 too long");
        BurnedDown x = new BurnedDown();
        for (int things = 0; things <= 6; things++) {
            for (int length = 0; length <= 6; length++) {
                for (int i = 0; i < length; i++) x.put(0);
                due(things + " and " + length, x.judge(), length < things ? 1000 : length > things ? 1001 : -9);
            }
            thing(x, PLAIN);
        }
        x = with(PLAIN, PLAIN);
        x.look(0, 0, 0, 0);
        due("too short before what is wrong", judged(x, 5), 1000);
        due("too long before what is wrong", judged(x, 5, 5, 5), 1001);
    }

    private static void rowByThingsInOrder() {
        says("JUDGED: what is wrong first, by THINGS in order: a LOOK at it (by numbers); then its JOINING");
        BurnedDown x = six();
        for (int t = 5; t >= 0; t--) between(x, t, 10, 20);
        for (int t = 5; t >= 2; t--) between(x, t, 15, 25);
        for (int t = 1; t < 6; t++) x.join(t, t - 1, 3, 5);
        due("all may be", judged(x, 10, 15, 15, 20, 20, 20), -9);
        due("all are wrong", judged(x, 299, 0, 299, 0, 299, 0), 105);
        int[] firstLook = {105, 104, 103, 102, 101, 100};
        int[] secondLook = {-9, -9, 109, 108, 107, 106};
        int[] good = {15, 15, 15, 15, 15, 15};
        for (int t = 0; t < 6; t++) {
            int[] row = good.clone();
            row[t] = 9;
            due("wrong by the first LOOK at " + t, judged(x, row), firstLook[t]);
            row[t] = 14;
            due("wrong by the second LOOK at " + t, judged(x, row), secondLook[t]);
            row[t] = 21;
            due("wrong by the first LOOK at " + t, judged(x, row), firstLook[t]);
        }
        due("the JOINING of 1", judged(x, 10, 16, 20, 20, 20, 20), 1);
        due("the JOINING of 5", judged(x, 10, 15, 20, 20, 15, 20), -9);
        x.join(5, 4, 3, 4);
        due("the JOINING of 5", judged(x, 10, 15, 20, 20, 15, 20), 5);
        due("a LOOK at 2 before the JOINING of 3", judged(x, 10, 10, 14, 20, 15, 20), 109);
        due("the JOINING of 1 before a LOOK at 2", judged(x, 10, 20, 14, 20, 15, 20), 1);
    }

    private static void rowNotByDoubted() {
        says("JUDGED: a LOOK at it (not DOUBTED)");
        BurnedDown x = with(PLAIN);
        for (int k = 0; k < 10; k++) between(x, 0, 100 + k, 100 + k);
        for (int k = 0; k < 10; k++) {
            due("by the least", judged(x, 5), 100 + k);
            x.doubt(k, true);
        }
        due("all doubted", judged(x, 5), -9);
        x.doubt(9, false);
        due("the tenth", judged(x, 5), 109);
        due("the tenth", judged(x, 109), -9);
    }

    private static void doubtNoneNeeded() {
        says("DOUBT: (0: there are WAYS); -9 none does");
        due("without THINGS", new BurnedDown().doubts(), 0);
        BurnedDown x = six();
        due("without LOOKS", x.doubts(), 0);
        between(x, 5, 7, 7);
        due("there are WAYS", x.doubts(), 0);
        for (int t = 1; t < 6; t++) x.join(t, t - 1, 1, 60);
        due("JOININGS that none keeps", x.doubts(), -9);
        x.join(1, 0, 1, 59);
        due("all but the LOOK", x.doubts(), 1);
        x.doubt(0, true);
        due("it is DOUBTED", x.doubts(), 0);
    }

    private static void doubtFewest() {
        says("DOUBT: the one with the fewest, of several the least as bits, besides DOUBTED ones");
        BurnedDown x = with(PLAIN, PLAIN);
        for (int k = 0; k < 5; k++) between(x, 1, k, k);
        for (int k = 5; k < 10; k++) between(x, 0, k, k);
        due("the greatest of each stays", x.doubts(), 0b0111101111);
        x.join(1, 0, 0, 0);
        due("one of all stays", x.doubts(), 0b0111111111);
        x.doubt(9, true);
        due("besides DOUBTED ones", x.doubts(), 0b0011111111);
        x.join(1, 0, 1, 1);
        due("one behind", x.doubts(), 0b0011111111);
        x.join(1, 0, 2, 4);
        due("four ahead: each of some pairs", x.doubts(), 0b0011101111);
        x = with(PLAIN);
        x.look(0, 0, 0, 0);
        due("fewest: all of one", x.doubts(), 1);
        between(x, 0, 5, 9);
        between(x, 0, 9, 12);
        between(x, 0, 12, 14);
        due("a middle one is enough no more", x.doubts(), 0b0011);
    }

    private static void doubtTenthLook() {
        says("DOUBT: (bits) of LOOKS (10 at most)");
        BurnedDown x = with(PLAIN);
        for (int k = 0; k < 9; k++) between(x, 0, 0, 299);
        x.look(0, 0, 0, 0);
        due("the tenth alone", x.doubts(), 512);
        x = with(PLAIN);
        between(x, 0, 5, 5);
        between(x, 0, 5, 6);
        for (int k = 2; k < 9; k++) between(x, 0, 0, 299);
        between(x, 0, 7, 7);
        due("the tenth rather than the first two", x.doubts(), 512);
        x.doubt(0, true);
        due("the second rather than the tenth", x.doubts(), 2);
        x = with(PLAIN);
        for (int k = 0; k < 10; k++) x.look(0, 0, 0, 0);
        due("all ten", x.doubts(), 1023);
    }

    private static void joiningsReachNoFurther() {
        says("WAYS: a MINUTE for each THING (0 .. 299), all JOININGS kept: beyond 0 and 299 they reach nothing");
        for (int n = 1; n <= 8; n++) {
            for (int end = 0; end <= 299; end += 299) {
                BurnedDown x = with(PLAIN, PLAIN);
                x.join(1, 0, 3, n);
                between(x, 0, end, end);
                due("WAYS", x.ways(), n + 1);
                due("in some ahead", x.ahead(end == 0 ? 0 : 1, end == 0 ? 1 : 0), 2);
                due("in none ahead", x.ahead(end == 0 ? 1 : 0, end == 0 ? 0 : 1), 0);
                between(x, 1, 299 - end, 299 - end);
                due("no WAYS", x.ways(), 0);
                due("DOUBT", x.doubts(), 1);
                x.doubt(0, true);
                due("from the other one", x.may(0), n + 1);
                x.doubt(0, false);
                x.doubt(1, true);
                due("not from the other end", x.run(1, 0, 0), end == 0 ? 0 : 299 - n);
            }
        }
    }

    private static void openedFirst() {
        says("OPENED: of WINDOWS told as candidates (4 at most) the first with which (in place of the WINDOW) there are WAYS; -9 none");
        for (int good = 0; good <= 4; good++) {
            BurnedDown x = with("w100,1");
            x.look(0, 0, 100, 100);
            x.look(0, 299, 60, 60);
            for (int i = 0; i < 4; i++) due("a candidate", x.candidate(100, i >= good ? 139 : 140 + i), i + 1);
            due("the first", x.opened(), good < 4 ? good : -9);
            x.window(10, 49);
            due("whatever the WINDOW is", x.opened(), good < 4 ? good : -9);
            due("the WINDOW stays", x.ways(), 1);
        }
        BurnedDown x = new BurnedDown();
        due("no candidates", x.opened(), -9);
        x.candidate(0, 0);
        due("without THINGS", x.opened(), 0);
        x = with("w100,1");
        x.window(0, 9);
        x.look(0, 299, 90, 90);
        due("the WINDOW is no candidate", x.opened(), -9);
    }

    private static void hangsOnMost() {
        says("HANGS: the THING without whose LOOKS there are most WAYS (more than now); of several the least; -9 none");
        due("without THINGS", new BurnedDown().hangs(), -9);
        BurnedDown x = six();
        due("without LOOKS", x.hangs(), -9);
        between(x, 3, 0, 299);
        due("not more than now", x.hangs(), -9);
        between(x, 5, 0, 298);
        due("one more", x.hangs(), 5);
        between(x, 4, 1, 299);
        due("of several the least", x.hangs(), 4);
        between(x, 0, 2, 299);
        due("most", x.hangs(), 0);
        between(x, 5, 0, 297);
        due("two LOOKS at one", x.hangs(), 0);
        between(x, 5, 1, 299);
        due("three LOOKS at one", x.hangs(), 5);
        x.look(1, 0, 0, 0);
        due("none now, some without", x.hangs(), 1);
        x.look(2, 0, 0, 0);
        due("none now, none without one", x.hangs(), -9);
    }

    private static void aheadOfTwo() {
        says("AHEAD of two: 1 the first began ahead of the second in all WAYS, 0 in none, 2 in some; -9 no WAYS");
        int[][] spans = {{0, 0, 1, 1, 1}, {0, 0, 0, 0, 0}, {1, 1, 0, 0, 0}, {0, 0, 0, 1, 2}, {0, 1, 1, 1, 2}, {298, 298, 299, 299, 1},
            {299, 299, 299, 299, 0}, {298, 299, 299, 299, 2}, {298, 299, 298, 298, 0}, {0, 299, 0, 299, 2}, {0, 298, 299, 299, 1},
            {0, 0, 1, 299, 1}, {299, 299, 0, 299, 0}, {0, 299, 0, 0, 0}};
        for (int[] s : spans) {
            BurnedDown x = six();
            between(x, 4, s[0], s[1]);
            between(x, 5, s[2], s[3]);
            due(s[0] + " .. " + s[1] + " and " + s[2] + " .. " + s[3], x.ahead(4, 5), s[4]);
            x.look(0, 0, 0, 0);
            due("no WAYS", x.ahead(4, 5), -9);
            due("no WAYS", x.ahead(5, 4), -9);
        }
    }

    private static void narrowMost() {
        says("NARROW: the most MINUTES of MAY (not later than it) that have one number LEFT; -9 there are none of these");
        BurnedDown x = with("k5,5", "e10,1", "s100,1", "e1000,1");
        due("at 0", x.narrow(0, 0), 1);
        due("all", x.narrow(0, 299), 300);
        due("run down", x.narrow(1, 299), 290);
        due("steps", x.narrow(2, 9), 10);
        due("steps", x.narrow(2, 10), 10);
        due("run down", x.narrow(2, 299), 200);
        between(x, 3, 100, 200);
        due("later than it", x.narrow(3, 99), -9);
        due("not later than it", x.narrow(3, 100), 1);
        x.join(0, -1, 0, 0);
        x.join(1, 0, 0, 0);
        x.join(3, 1, 0, 0);
        due("MAY by JOININGS", x.narrow(0, 99), -9);
        due("MAY by JOININGS", x.narrow(0, 150), 51);
        due("MAY by JOININGS", x.narrow(0, 299), 101);
        due("MAY by JOININGS, run down", x.narrow(1, 299), 101);
        x.look(2, 0, 0, 0);
        due("no WAYS", x.narrow(0, 299), -9);
        x = with("k0,0", "e0,0");
        due("0 LEFT", x.narrow(0, 299), 300);
        due("0 LEFT", x.narrow(1, 299), 300);
    }

    private static void nextLeast() {
        says("NEXT: the THING for which NARROW at a MINUTE told is least, of several the least; -9 none");
        due("without THINGS", new BurnedDown().next(299), -9);
        BurnedDown x = with("k1,1");
        due("300 are as good as any", x.next(299), 0);
        x = with("k1,1", "k1,1", "s300,1", "s300,1", "e1000,1", "e1000,1");
        due("of several the least", x.next(0), 0);
        due("least", x.next(299), 4);
        between(x, 4, 200, 299);
        between(x, 5, 100, 299);
        due("none of these at 4", x.next(199), 5);
        due("none of these at 4, 5", x.next(99), 2);
        due("at 4 again", x.next(200), 4);
        x.look(0, 0, 0, 0);
        due("no WAYS", x.next(299), -9);
    }

    public static void main(String[] args) {
        minutesOfLeft();
        minutesOfAsking();
        minutesOfTelling();
        thingsFromZero();
        textOfTwenty();
        beginningDigits();
        paceDigits();
        faultOfEachByte();
        faultAtTheEnd();
        laws();
        roomEnds();
        windowEnds();
        even();
        steps();
        whiles();
        kept();
        toward();
        damp();
        tenLooks();
        within();
        notLaterThanTheLook();
        aloneWithout();
        doubtedLeftOut();
        joinedToALesserOne();
        numberOfAJoining();
        kinds();
        kindsFromTheOtherEnd();
        joiningsReachNoFurther();
        waysWithoutThings();
        mayInSomeWay();
        ithRun();
        chanceOfNone();
        rowTooShortOrLong();
        rowByThingsInOrder();
        rowNotByDoubted();
        doubtNoneNeeded();
        doubtFewest();
        doubtTenthLook();
        openedFirst();
        hangsOnMost();
        aheadOfTwo();
        narrowMost();
        nextLeast();
        end("TermEdges");
    }
}
