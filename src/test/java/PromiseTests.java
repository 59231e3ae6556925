/** For each promise of the document: ordinary calls, the edges that it names, each refusal in its order. */
public final class PromiseTests extends Due {
    private static void newObject() {
        says("Promise 1");
        BurnedDown x = new BurnedDown();
        for (int what = 0; what <= 6; what++) due("count " + what, x.count(what), 0);
        for (int what = 11; what <= 16; what++) due("count " + what, x.count(what), 0);
        due("room", x.room(200), 200);
        due("ways", x.ways(), 1);
        due("doubts", x.doubts(), 0);
        due("judge", x.judge(), -9);
        due("next", x.next(0), -9);
        due("hangs", x.hangs(), -9);
        due("opened", x.opened(), -9);
        due("on", x.on(), -3);
        x = with("w100,1", "d100,10", "t100,10");
        due("no window, w", x.left(0, 0, 299), 100);
        due("no window, d", x.left(1, 0, 7), x.left(2, 0, 7));
    }

    private static void feed() {
        says("Promise 2");
        BurnedDown x = new BurnedDown();
        due("feed 0", x.feed(0, 5), -4);
        due("feed least", x.feed(Integer.MIN_VALUE, 5), -4);
        due("feed 9", x.feed(9, 5), -6);
        due("feed greatest", x.feed(Integer.MAX_VALUE, 5), -6);
        due("feed 8", x.feed(8, 0x3030303030303030L), 8);
        due("feed 8", x.feed(8, 1), 16);
        due("feed 5", x.feed(5, 1), -6);
        due("feed 4", x.feed(4, 1), 20);
        due("feed 1", x.feed(1, 1), -6);
        due("feed 0 when full", x.feed(0, 1), -4);
        due("count 5", x.count(5), 20);
        due("count -4", x.count(14), 3);
        due("count -6", x.count(16), 4);
        due("full tape", x.thing(), -20);
        due("count 5", x.count(5), 0);
        // Of the long only n bytes come, and the lowest comes first.
        due("feed 1", x.feed(1, 0x7777777777777700L | 'e'), 1);
        due("feed 3", x.feed(3, -1L << 24 | '1' | ',' << 8 | '2' << 16), 4);
        due("thing", x.thing(), 0);
        due("law", x.thingOf(0, 0), 0);
        due("beginning", x.thingOf(0, 1), 1);
        due("pace", x.thingOf(0, 2), 2);
        due("high byte", x.feed(1, 0x80 | 'e'), 1);
        due("thing of it", x.thing(), -20);
    }

    private static void faults() {
        String[] texts = {"", "x", "E1,1", ",", "1", "e", "e,1", "ex", "e1", "e12", "e1234", "e12345,1", "e1;1", "e1,", "e1,,",
            "e1,x", "e1,1x", "e1,12x", "e1,123", "e1,1,", "e1234,", "e1234,x", "e1234,12e", "e1,1 ", " e1,1", "e 1,1", "e-1,1",
            "e1/,1", "e1:,1", "e1,/", "e1,:", "e1,1/", "t1234,56789", "k99999999999999999999"};
        int[] places = {0, 0, 0, 0, 0, 1, 1, 1, 2, 3, 5, 5, 2, 3, 3,
            3, 4, 5, 5, 4, 6, 6, 8, 4, 0, 1, 1,
            2, 2, 3, 3, 4, 8, 5};
        BurnedDown x = new BurnedDown();
        for (int i = 0; i < texts.length; i++) {
            int places20 = -20 - places[i];
            due("thing of '" + texts[i] + "'", thing(x, texts[i].length() > 20 ? texts[i].substring(0, 20) : texts[i]), places20);
            due("count 5", x.count(5), 0);
        }
        due("count 0", x.count(0), 0);
        for (int what = 11; what <= 16; what++) due("count " + what, x.count(what), 0);
    }

    private static void things() {
        says("Promise 3");
        faults();
        BurnedDown x = with("e0,0", "t9999,99", "s1,1", "w12,12", "d123,3", "k0007,00");
        due("count 0", x.count(0), 6);
        feedText(x, "e1,1");
        due("a seventh", x.thing(), -6);
        due("count 5", x.count(5), 4);
        due("a seventh again", x.thing(), -6);
        x.feed(1, 'x');
        due("a seventh with a fault", x.thing(), -6);
        due("count 5", x.count(5), 5);
        due("count -6", x.count(16), 3);
        due("count 0", x.count(0), 6);
        // Room comes again with the image.
        x = new BurnedDown();
        x.image();
        for (int i = 0; i < 6; i++) thing(x, "e1,1");
        feedText(x, "k5,5");
        due("a seventh", x.thing(), -6);
        due("on", x.on(), 0);
        due("the tape stayed", x.thing(), 0);
        due("its law", x.thingOf(0, 0), 5);
    }

    private static void thingOf() {
        says("Promise 4");
        BurnedDown x = with("e0,0", "t9999,99", "s1,1", "w12,12", "d123,3", "k0007,00");
        int[] beginnings = {0, 9999, 1, 12, 123, 7};
        int[] paces = {0, 99, 1, 12, 3, 0};
        for (int t = 0; t < 6; t++) {
            due("law " + t, x.thingOf(t, 0), t);
            due("beginning " + t, x.thingOf(t, 1), beginnings[t]);
            due("pace " + t, x.thingOf(t, 2), paces[t]);
        }
        due("no such", x.thingOf(6, 0), -1);
        due("no such", x.thingOf(-1, 0), -1);
        due("-1 before -2", x.thingOf(6, 3), -1);
        due("other", x.thingOf(5, 3), -2);
        due("other", x.thingOf(5, -1), -2);
        due("count -1", x.count(11), 3);
        due("count -2", x.count(12), 2);
    }

    private static void room() {
        says("Promise 5");
        BurnedDown x = with("t100,50", "d100,25");
        due("toward 200", x.left(0, 0, 1), 150);
        due("room 0", x.room(0), 200);
        due("toward 0", x.left(0, 0, 1), 50);
        due("damp toward 0", x.left(1, 0, 1), 75);
        due("room 9999", x.room(9999), 0);
        due("toward 9999", x.left(0, 0, 1), 5049);
        due("room -1", x.room(-1), -4);
        due("room 10000", x.room(10000), -6);
        due("room least", x.room(Integer.MIN_VALUE), -4);
        due("room greatest", x.room(Integer.MAX_VALUE), -6);
        due("room 100", x.room(100), 9999);
        due("toward 100", x.left(0, 0, 299), 100);
        due("count -4", x.count(14), 2);
        due("count -6", x.count(16), 2);
        // LOOKS are seen anew by another ROOM.
        due("look", x.look(0, 10, 100, 100), 0);
        due("alone", x.alone(0), 11);
        due("room 200", x.room(200), 100);
        due("alone", x.alone(0), 1);
    }

    private static void window() {
        says("Promise 6");
        BurnedDown x = with("w100,1");
        due("window", x.window(10, 19), 1);
        due("both in it", x.left(0, 0, 299), 90);
        due("one minute", x.window(299, 299), 1);
        due("at the end", x.left(0, 299, 1), 99);
        due("behind it", x.left(0, 299, 299), 99);
        due("whole", x.window(0, 299), 1);
        due("whole", x.left(0, 0, 50), 50);
        due("none", x.window(-1, 7), 1);
        due("none", x.left(0, 0, 50), 100);
        due("none, to below", x.window(-1, -5), 1);
        due("none, to above", x.window(-1, 300), 1);
        due("window", x.window(3, 4), 1);
        due("below", x.window(-2, 5), -4);
        due("below", x.window(-2, 300), -4);
        due("to below", x.window(0, -1), -4);
        due("to below from", x.window(5, 4), -4);
        due("to below from before above", x.window(400, 399), -4);
        due("above", x.window(0, 300), -6);
        due("above both", x.window(300, 300), -6);
        due("the window stands", x.left(0, 0, 50), 98);
        due("count -4", x.count(14), 5);
        due("count -6", x.count(16), 2);
        // LOOKS are seen anew by another WINDOW.
        due("look", x.look(0, 50, 98, 98), 0);
        due("alone", x.alone(0), 4);
        due("window", x.window(30, 31), 1);
        due("alone", x.alone(0), 31);
        due("none", x.window(-1, 0), 1);
        due("alone", x.alone(0), 0);
    }

    private static void candidate() {
        says("Promise 7");
        BurnedDown x = new BurnedDown();
        due("below", x.candidate(-1, 0), -4);
        due("to below from", x.candidate(2, 1), -4);
        due("above", x.candidate(0, 300), -6);
        due("to below from before above", x.candidate(301, 300), -4);
        due("candidate", x.candidate(0, 0), 1);
        due("candidate", x.candidate(299, 299), 2);
        due("candidate", x.candidate(0, 299), 3);
        due("candidate", x.candidate(0, 299), 4);
        due("a fifth", x.candidate(0, 299), -6);
        due("below before full", x.candidate(-1, 299), -4);
        due("to below from before full", x.candidate(5, 4), -4);
        due("count 4", x.count(4), 4);
        due("count -4", x.count(14), 5);
        due("count -6", x.count(16), 2);
    }

    private static void lefts() {
        BurnedDown x = with("e100,3", "s100,1", "k70,50", "e5,0", "s9999,99", "e9999,99");
        due("even", x.left(0, 0, 0), 100);
        due("even", x.left(0, 7, 33), 1);
        due("even", x.left(0, 299, 34), 0);
        due("even", x.left(0, 0, 299), 0);
        due("steps", x.left(1, 3, 9), 100);
        due("steps", x.left(1, 3, 10), 90);
        due("steps", x.left(1, 0, 19), 90);
        due("steps", x.left(1, 0, 99), 10);
        due("steps", x.left(1, 0, 100), 0);
        due("steps", x.left(1, 0, 299), 0);
        due("kept", x.left(2, 0, 299), 70);
        due("even 0", x.left(3, 0, 299), 5);
        due("steps", x.left(4, 0, 100), 99);
        due("steps", x.left(4, 0, 110), 0);
        due("even", x.left(5, 0, 101), 0);
        due("even", x.left(5, 0, 100), 99);
        // Cut without sign: a distance of 50 by 1 hundredth moves neither up nor down.
        x = with("t0,1", "t250,1", "t301,1", "t150,99", "t200,50", "d1000,30");
        due("toward", x.left(0, 0, 1), 2);
        due("toward", x.left(0, 0, 2), 3);
        due("toward", x.left(0, 0, 299), 101);
        due("toward", x.left(1, 0, 299), 250);
        due("toward", x.left(2, 0, 1), 300);
        due("toward", x.left(2, 0, 2), 299);
        due("toward", x.left(2, 0, 299), 299);
        due("toward", x.left(3, 0, 1), 199);
        due("toward", x.left(3, 0, 2), 199);
        due("toward", x.left(4, 9, 9), 200);
        due("damp outside", x.left(5, 0, 2), 592);
        x.window(1, 1);
        due("damp", x.left(5, 0, 1), 760);
        due("damp inside", x.left(5, 0, 2), 424);
        due("damp", x.left(5, 1, 1), 520);
        due("damp behind", x.left(5, 2, 1), 760);
    }

    private static BurnedDown with100() {
        BurnedDown x = with("d1000,99");
        x.window(100, 109);
        return x;
    }

    private static void left() {
        says("Promise 8");
        lefts();
        BurnedDown x = with("d1000,50", "d1000,49", "w100,7", "d260,1");
        x.window(100, 109);
        due("damp 100 at most", x.left(0, 100, 1), 200);
        due("damp 98", x.left(1, 100, 1), 216);
        due("while before", x.left(2, 0, 100), 100);
        due("while first", x.left(2, 0, 101), 93);
        due("while last", x.left(2, 0, 110), 30);
        due("while behind", x.left(2, 0, 299), 30);
        due("while from the last", x.left(2, 109, 2), 93);
        due("while from behind", x.left(2, 110, 299), 100);
        // A DAMP one that stands still outside of the WINDOW moves in it.
        due("damp", x.left(3, 0, 100), 260);
        due("damp", x.left(3, 0, 299), 250);
        due("damp 100 at most", with100().left(0, 100, 1), 200);
        due("damp 100 at most", with100().left(0, 99, 1), 208);
        x.window(0, 299);
        due("while 0 at least", x.left(2, 0, 15), 0);
        due("minutes beyond 299 are in no window", x.left(2, 299, 299), 93);
        due("damp beyond 299", x.left(3, 299, 299), 259);
        due("no such", x.left(4, 0, 0), -1);
        due("no such before below", x.left(-1, -1, 0), -1);
        due("below b", x.left(0, -1, 300), -4);
        due("below a", x.left(0, 300, -1), -4);
        due("above b", x.left(0, 300, 0), -6);
        due("above a", x.left(0, 0, 300), -6);
        due("count -1", x.count(11), 2);
        due("count -4", x.count(14), 2);
        due("count -6", x.count(16), 2);
    }

    private static void look() {
        says("Promise 9");
        BurnedDown x = with("e100,1");
        due("no such", x.look(1, -1, 0, 0), -1);
        due("no such", x.look(-1, 0, 0, 0), -1);
        due("minute below", x.look(0, -1, 0, 10000), -4);
        due("low below", x.look(0, 300, -1, 0), -4);
        due("high below", x.look(0, 0, -2, -1), -4);
        due("high below low", x.look(0, 300, 5, 4), -4);
        due("high below low before above", x.look(0, 0, 10001, 10000), -4);
        due("minute above", x.look(0, 300, 0, 0), -6);
        due("low above", x.look(0, 0, 10000, 10000), -6);
        due("high above", x.look(0, 0, 0, 10000), -6);
        due("count 1", x.count(1), 0);
        for (int k = 0; k < 10; k++) due("look " + k, x.look(0, 299, 0, 9999), k);
        due("an eleventh", x.look(0, 0, 0, 0), -6);
        due("below before full", x.look(0, -1, 0, 0), -4);
        due("nobody before full", x.look(1, -1, 0, 0), -1);
        due("count 1", x.count(1), 10);
        due("count -1", x.count(11), 3);
        due("count -4", x.count(14), 6);
        due("count -6", x.count(16), 4);
        due("all fit", x.alone(0), 300);
        // Both ends of a LOOK are within; its own MINUTE is not too late.
        x = with("e100,1");
        x.look(0, 50, 60, 70);
        due("alone", x.alone(0), 11);
        due("first", x.can(0, 10), 1);
        due("before it", x.can(0, 9), 0);
        due("last", x.can(0, 20), 1);
        due("behind it", x.can(0, 21), 0);
        x = with("e100,1");
        x.look(0, 50, 100, 100);
        due("its minute", x.can(0, 50), 1);
        due("alone", x.alone(0), 1);
        x = with("k100,1");
        x.look(0, 50, 100, 100);
        due("later", x.can(0, 51), 0);
        due("alone", x.alone(0), 51);
    }

    private static void doubt() {
        says("Promise 10");
        BurnedDown x = with("e100,1");
        due("no such", x.doubt(0, true), -1);
        x.look(0, 50, 100, 100);
        x.look(0, 60, 100, 100);
        due("no such", x.doubt(2, true), -1);
        due("no such", x.doubt(-1, false), -1);
        due("count -1", x.count(11), 3);
        due("it was so", x.doubt(0, false), 0);
        due("alone", x.alone(0), 0);
        due("doubt", x.doubt(0, true), 1);
        due("it was so", x.doubt(0, true), 0);
        due("alone", x.alone(0), 1);
        due("count 2", x.count(2), 1);
        due("doubt", x.doubt(1, true), 1);
        due("alone", x.alone(0), 300);
        due("count 2", x.count(2), 2);
        due("believe", x.doubt(0, false), 1);
        due("believe", x.doubt(0, false), 0);
        due("can", x.can(0, 50), 1);
        due("alone", x.alone(0), 1);
        due("count 2", x.count(2), 1);
        due("count 1", x.count(1), 2);
    }

    private static void join() {
        says("Promise 11");
        BurnedDown x = with(PLAIN, PLAIN, PLAIN);
        due("no such", x.join(3, 0, 9, -1), -1);
        due("no such", x.join(-1, -1, 0, 0), -1);
        due("none lesser than 0", x.join(0, 0, 0, 0), -1);
        due("none lesser than 0", x.join(0, 1, 0, 0), -1);
        due("no such other", x.join(0, -2, 0, 0), -1);
        due("itself", x.join(1, 1, 0, 0), -1);
        due("a greater one", x.join(1, 2, 0, 0), -1);
        due("no such other", x.join(1, -2, 0, 0), -1);
        due("nobody before other", x.join(1, 1, 4, -1), -1);
        due("other", x.join(1, 0, 4, -1), -2);
        due("other", x.join(1, 0, -1, 300), -2);
        due("below", x.join(1, 0, 0, -1), -4);
        due("above", x.join(1, 0, 3, 300), -6);
        due("count 3", x.count(3), 0);
        due("join", x.join(1, 0, 0, 299), 1);
        due("join", x.join(2, 0, 3, 0), 1);
        due("count 3", x.count(3), 2);
        due("ways", x.ways(), 1);
        due("another in place", x.join(2, 1, 3, 0), 1);
        due("count 3", x.count(3), 2);
        due("ways", x.ways(), 1);
        due("refused", x.join(2, 1, 4, 0), -2);
        due("it stands", x.ways(), 1);
        due("none", x.join(2, -1, 9, -9), 1);
        due("none again", x.join(2, -1, 0, 999), 1);
        due("count 3", x.count(3), 1);
        due("ways", x.ways(), 300);
        due("count -1", x.count(11), 9);
        due("count -2", x.count(12), 3);
        due("count -4", x.count(14), 1);
        due("count -6", x.count(16), 1);
        joinFirstToNone();
    }

    /** THING 0 can be joined to no other one; to none it can. */
    private static void joinFirstToNone() {
        BurnedDown x = new BurnedDown();
        due("no things", x.join(0, -1, 0, 0), -1);
        x = with(PLAIN, PLAIN);
        x.join(1, 0, 0, 299);
        due("first to none", x.join(0, -1, 0, 0), 1);
        due("first to none, whatever kind and n are", x.join(0, -1, 9, -9), 1);
        due("the other joining stands", x.ways(), 1);
        due("count 3", x.count(3), 1);
        due("no such to none", x.join(2, -1, 0, 0), -1);
        due("no such to none", x.join(-1, -1, 0, 0), -1);
        due("count -1", x.count(11), 2);
        for (int what = 12; what <= 16; what++) due("count " + what, x.count(what), 0);
    }

    private static void alone() {
        says("Promise 12");
        BurnedDown x = with(PLAIN, PLAIN);
        due("without looks", x.alone(0), 300);
        between(x, 0, 10, 20);
        due("alone", x.alone(0), 11);
        due("the other", x.alone(1), 300);
        between(x, 0, 18, 40);
        due("by both", x.alone(0), 3);
        between(x, 1, 0, 299);
        due("all", x.alone(1), 300);
        x.join(1, 0, 0, 0);
        due("joinings say nothing", x.alone(1), 300);
        between(x, 0, 50, 60);
        due("none", x.alone(0), 0);
        due("no such", x.alone(2), -1);
        due("no such", x.alone(-1), -1);
        due("count -1", x.count(11), 2);
    }

    private static void can() {
        says("Promise 13");
        BurnedDown x = with(PLAIN, PLAIN);
        between(x, 0, 10, 20);
        for (int b = 0; b < 300; b++) {
            due("can " + b, x.can(0, b), b >= 10 && b <= 20 ? 1 : 0);
            due("the other can " + b, x.can(1, b), 1);
        }
        x = with(PLAIN, PLAIN);
        due("no such", x.can(2, -1), -1);
        due("no such", x.can(-1, 300), -1);
        due("below", x.can(0, -1), -4);
        due("above", x.can(0, 300), -6);
        due("count -1", x.count(11), 2);
        due("count -4", x.count(14), 1);
        due("count -6", x.count(16), 1);
    }

    private static long waysOf(int kind, int n) {
        BurnedDown x = with(PLAIN, PLAIN);
        x.join(1, 0, kind, n);
        return x.ways();
    }

    private static void ways() {
        says("Promise 14");
        due("no things", new BurnedDown().ways(), 1);
        BurnedDown x = with(PLAIN, PLAIN, PLAIN, PLAIN, PLAIN, PLAIN);
        due("six", x.ways(), 729000000000000L);
        for (int n : new int[] {0, 1, 7, 149, 150, 298, 299}) {
            long behind = (300L - n) * (301 - n) / 2;
            due("just " + n, waysOf(0, n), 300 - n);
            due("after " + n, waysOf(1, n), behind);
            due("before " + n, waysOf(2, n), behind);
            due("near " + n, waysOf(3, n), 300L * (2 * n + 1) - (long) n * (n + 1));
        }
        for (int t = 1; t < 6; t++) x.join(t, t - 1, 1, 0);
        // Six of 300 in order, again and again: 305 over 6.
        due("a chain after", x.ways(), 305L * 304 / 2 * 303 / 3 * 302 / 4 * 301 / 5 * 300 / 6);
        for (int t = 1; t < 6; t++) x.join(t, 0, 0, t);
        due("a star just", x.ways(), 295);
        for (int t = 1; t < 6; t++) x.join(t, 0, 3, 299);
        due("near 299 says nothing", x.ways(), 729000000000000L);
        x.join(2, 0, 0, 299);
        due("one left", x.ways(), 300L * 300 * 300 * 300);
        between(x, 0, 1, 299);
        due("none left", x.ways(), 0);
        x.join(2, -1, 0, 0);
        due("299", x.ways(), 299L * 300 * 300 * 300 * 300 * 300);
    }

    private static void may() {
        says("Promise 15");
        BurnedDown x = with(PLAIN, PLAIN, PLAIN, PLAIN);
        due("without", x.may(3), 300);
        x.join(1, 0, 1, 100);
        x.join(2, 1, 1, 100);
        due("first", x.may(0), 100);
        due("middle", x.may(1), 100);
        due("last", x.may(2), 100);
        due("beside", x.may(3), 300);
        due("first", x.run(1, 0, 0), 100);
        x.join(3, 2, 0, 99);
        due("all", x.may(0), 1);
        due("all", x.may(1), 1);
        due("all", x.may(2), 1);
        due("all", x.may(3), 1);
        x.join(3, 2, 0, 100);
        for (int t = 0; t < 4; t++) due("none " + t, x.may(t), 0);
        x = with(PLAIN, PLAIN);
        between(x, 0, 5, 4 + 5);
        between(x, 1, 200, 210);
        due("may", x.may(0), 5);
        x.look(1, 0, 0, 0);
        due("no ways by another", x.may(0), 0);
        due("no ways", x.may(1), 0);
        due("no such", x.may(2), -1);
        due("no such", x.may(-1), -1);
        due("count -1", x.count(11), 2);
    }

    private static void run() {
        says("Promise 16");
        BurnedDown x = with("w100,1", PLAIN);
        due("whole from", x.run(1, 0, 0), 0);
        due("whole to", x.run(1, 0, 1), 299);
        due("no more", x.run(1, 1, 0), -9);
        due("no more", x.run(1, 1, 1), -9);
        due("none such", x.run(1, -1, 0), -9);
        due("none such", x.run(1, Integer.MIN_VALUE, 1), -9);
        due("none such", x.run(1, Integer.MAX_VALUE, 1), -9);
        x = with("s100,1", "s100,1");
        x.look(0, 40, 70, 90);
        x.look(1, 60, 80, 80);
        due("steps from", x.run(1, 0, 0), 31);
        due("steps to", x.run(1, 0, 1), 40);
        x.join(1, 0, 0, 5);
        due("from", x.run(0, 0, 0), 26);
        due("to", x.run(0, 0, 1), 30);
        due("no such", x.run(2, 0, 2), -1);
        due("no such", x.run(-1, 0, 0), -1);
        due("other", x.run(1, 0, 2), -2);
        due("other before none", x.run(1, -1, -1), -2);
        due("count -1", x.count(11), 2);
        due("count -2", x.count(12), 2);
        x.look(0, 0, 0, 0);
        due("no ways", x.run(0, 0, 0), -9);
        due("no ways", x.run(0, 0, 1), -9);
        x = with("t300,10", "k5,5");
        x.look(0, 20, 230, 300);
        int from = x.run(0, 0, 0);
        int to = x.run(0, 0, 1);
        due("may", x.may(0), to - from + 1);
        due("one run", x.run(0, 1, 0), -9);
        due("to the look", to, 20);
        due("first in", x.left(0, from, 20 - from) >= 230 ? 1 : 0, 1);
        due("one before out", x.left(0, from - 1, 21 - from) >= 230 ? 1 : 0, 0);
    }

    private static void chance() {
        says("Promise 17");
        BurnedDown x = with(PLAIN, PLAIN, PLAIN);
        due("above", x.chance(0, 0, 0), 1);
        due("below", x.chance(0, 0, 1), 300);
        x.join(1, 0, 1, 0);
        due("above", x.chance(0, 0, 0), 2);
        due("below", x.chance(0, 0, 1), 301);
        due("above", x.chance(0, 299, 0), 1);
        due("below", x.chance(0, 299, 1), 45150);
        due("above", x.chance(1, 299, 0), 2);
        due("below", x.chance(1, 299, 1), 301);
        due("above", x.chance(1, 1, 0), 1);
        due("below", x.chance(1, 1, 1), 22575);
        due("beside", x.chance(2, 1, 0), 1);
        due("beside", x.chance(2, 1, 1), 300);
        x.join(1, 0, 1, 1);
        due("none with it", x.chance(0, 299, 0), 0);
        due("none with it", x.chance(0, 299, 1), 1);
        x.look(2, 0, 0, 0);
        due("no ways", x.chance(0, 0, 0), 0);
        due("no ways", x.chance(0, 0, 1), 1);
        x = with(PLAIN);
        between(x, 0, 7, 7);
        due("sure", x.chance(0, 7, 0), 1);
        due("sure", x.chance(0, 7, 1), 1);
        due("not", x.chance(0, 8, 0), 0);
        due("no such", x.chance(1, -1, 2), -1);
        due("no such", x.chance(-1, 0, 0), -1);
        due("other", x.chance(0, -1, 2), -2);
        due("other", x.chance(0, 300, -1), -2);
        due("below", x.chance(0, -1, 0), -4);
        due("above", x.chance(0, 300, 1), -6);
        due("count -1", x.count(11), 2);
        due("count -2", x.count(12), 2);
        due("count -4", x.count(14), 1);
        due("count -6", x.count(16), 1);
    }

    private static void put() {
        says("Promise 18");
        BurnedDown x = new BurnedDown();
        due("below", x.put(-1), -4);
        due("above", x.put(300), -6);
        for (int i = 1; i <= 6; i++) due("put", x.put(i % 2 * 299), i);
        due("a seventh", x.put(0), -6);
        due("below before full", x.put(-1), -4);
        due("count 6", x.count(6), 6);
        due("judge", x.judge(), 1001);
        due("count 6", x.count(6), 0);
        due("put", x.put(5), 1);
        due("count -4", x.count(14), 2);
        due("count -6", x.count(16), 2);
    }

    private static void judge() {
        says("Promise 19");
        BurnedDown x = with(PLAIN, PLAIN, PLAIN);
        due("too short", judged(x), 1000);
        due("too short", judged(x, 1, 2), 1000);
        due("too long", judged(x, 1, 2, 3, 4), 1001);
        due("all may be", judged(x, 0, 299, 150), -9);
        between(x, 2, 100, 110);
        between(x, 0, 100, 110);
        between(x, 0, 105, 120);
        between(x, 1, 100, 110);
        due("looks by things", judged(x, 0, 0, 0), 101);
        due("looks by numbers", judged(x, 104, 0, 0), 102);
        due("the next thing", judged(x, 105, 99, 111), 103);
        due("the last thing", judged(x, 105, 110, 111), 100);
        due("all may be", judged(x, 105, 110, 110), -9);
        x.join(1, 0, 0, 2);
        x.join(2, 1, 3, 3);
        due("its look before its joining", judged(x, 105, 99, 0), 103);
        due("joining before the next look", judged(x, 105, 108, 99), 1);
        due("joining", judged(x, 105, 107, 103), 2);
        due("joining", judged(x, 105, 107, 104), -9);
        due("joining", judged(x, 105, 107, 110), -9);
        due("a look before", judged(x, 105, 107, 111), 100);
        x.doubt(0, true);
        due("not a doubted one", judged(x, 105, 107, 111), 2);
        x.join(2, 1, 1, 5);
        due("after", judged(x, 105, 107, 112), -9);
        due("after", judged(x, 105, 107, 111), 2);
        x.join(2, 1, 2, 5);
        due("before", judged(x, 105, 107, 102), -9);
        due("before", judged(x, 105, 107, 103), 2);
        x.join(2, 0, 0, 0);
        due("just", judged(x, 105, 107, 105), -9);
        due("just", judged(x, 105, 107, 106), 2);
        due("the row is gone", x.count(6), 0);
        due("too short again", x.judge(), 1000);
        x = with("k5,5");
        x.look(0, 50, 5, 5);
        due("its minute", judged(x, 50), -9);
        due("later", judged(x, 51), 100);
    }

    private static void doubts() {
        says("Promise 20");
        due("no things", new BurnedDown().doubts(), 0);
        BurnedDown x = with(PLAIN, PLAIN);
        due("no looks", x.doubts(), 0);
        between(x, 0, 10, 10);
        between(x, 0, 20, 20);
        due("the least bits", x.doubts(), 1);
        between(x, 0, 10, 12);
        due("the fewest", x.doubts(), 2);
        between(x, 0, 20, 22);
        due("the least bits of two", x.doubts(), 5);
        between(x, 0, 21, 21);
        due("the least bits of three", x.doubts(), 7);
        x.doubt(4, true);
        due("besides doubted ones", x.doubts(), 5);
        x.doubt(0, true);
        due("besides doubted ones", x.doubts(), 4);
        x.doubt(2, true);
        due("ways already", x.doubts(), 0);
        x.join(1, 0, 0, 5);
        due("ways already", x.doubts(), 0);
        between(x, 1, 20, 20);
        due("fewest by joining", x.doubts(), 32);
        x.doubt(3, true);
        due("least bits by joining", x.doubts(), 2);
        x.join(1, 0, 0, 299);
        due("all left out", x.doubts(), 2 + 32);
        // Joinings that none keeps.
        x = with(PLAIN, PLAIN, PLAIN);
        x.join(1, 0, 1, 200);
        x.join(2, 1, 1, 200);
        due("none does", x.doubts(), -9);
        x.join(2, 1, 1, 99);
        due("there are ways", x.doubts(), 0);
        x = with(PLAIN);
        for (int i = 0; i < 10; i++) between(x, 0, i, i);
        due("all but the last", x.doubts(), 511);
        x.look(0, 0, 0, 0);
        due("still", x.doubts(), 511);
    }

    private static void opened() {
        says("Promise 21");
        BurnedDown x = with("w100,1", PLAIN);
        due("no candidates", x.opened(), -9);
        x.look(0, 100, 50, 50);
        x.candidate(0, 40);
        x.candidate(60, 90);
        due("none", x.opened(), -9);
        x.candidate(40, 89);
        x.candidate(30, 99);
        due("the first", x.opened(), 2);
        due("the window stays", x.ways(), 0);
        x.window(0, 299);
        due("in place of the window", x.opened(), 2);
        due("ways", x.ways(), 300);
        due("may", x.may(0), 1);
        x.doubt(0, true);
        due("doubted", x.opened(), 0);
        x.doubt(0, false);
        x.look(1, 0, 0, 0);
        due("none by the other", x.opened(), -9);
        due("the window stays", x.left(0, 0, 10), 90);
        x = new BurnedDown();
        x.candidate(3, 4);
        due("no things", x.opened(), 0);
    }

    private static void hangs() {
        says("Promise 22");
        due("no things", new BurnedDown().hangs(), -9);
        BurnedDown x = with(PLAIN, PLAIN, PLAIN);
        due("no looks", x.hangs(), -9);
        between(x, 1, 0, 299);
        due("not more", x.hangs(), -9);
        between(x, 2, 0, 99);
        due("more", x.hangs(), 2);
        between(x, 1, 0, 99);
        due("of several the least", x.hangs(), 1);
        between(x, 0, 0, 9);
        due("most", x.hangs(), 0);
        x.doubt(3, true);
        due("doubted", x.hangs(), 1);
        x.doubt(2, true);
        due("doubted", x.hangs(), 2);
        x.doubt(1, true);
        due("all doubted", x.hangs(), -9);
        x = with(PLAIN, PLAIN);
        between(x, 0, 10, 10);
        between(x, 1, 100, 200);
        x.join(1, 0, 0, 3);
        due("ways by one only", x.hangs(), 0);
        x.join(1, 0, 0, 299);
        due("no ways at all", x.hangs(), -9);
        x.join(1, 0, 0, 3);
        x.look(0, 0, 0, 0);
        x.look(1, 0, 0, 0);
        due("none by either", x.hangs(), -9);
    }

    private static void ahead() {
        says("Promise 23");
        BurnedDown x = with(PLAIN, PLAIN, PLAIN, PLAIN);
        due("some", x.ahead(0, 1), 2);
        due("some", x.ahead(1, 0), 2);
        x.join(1, 0, 1, 1);
        due("all", x.ahead(0, 1), 1);
        due("none", x.ahead(1, 0), 0);
        x.join(1, 0, 1, 0);
        due("some", x.ahead(0, 1), 2);
        due("none", x.ahead(1, 0), 0);
        x.join(1, 0, 0, 0);
        due("together", x.ahead(0, 1), 0);
        due("together", x.ahead(1, 0), 0);
        x.join(2, 1, 2, 3);
        x.join(3, 1, 1, 0);
        due("along two", x.ahead(2, 3), 1);
        due("along two", x.ahead(3, 2), 0);
        due("along two", x.ahead(2, 0), 1);
        due("along two", x.ahead(0, 3), 2);
        due("along two", x.ahead(3, 0), 0);
        x.join(3, 1, 3, 2);
        due("near", x.ahead(2, 3), 1);
        due("near", x.ahead(3, 1), 2);
        x.join(3, 1, 3, 3);
        due("near", x.ahead(2, 3), 2);
        x.look(3, 0, 0, 0);
        due("no ways", x.ahead(0, 1), -9);
        due("no ways", x.ahead(0, 3), -9);
        x = with(PLAIN, PLAIN);
        between(x, 0, 0, 0);
        due("at 0", x.ahead(0, 1), 2);
        x.join(1, 0, 1, 1);
        due("at 0", x.ahead(0, 1), 1);
        x.join(1, 0, 3, 0);
        due("both at 0", x.ahead(0, 1), 0);
        due("both at 0", x.ahead(1, 0), 0);
        x = with(PLAIN, PLAIN);
        between(x, 0, 10, 20);
        between(x, 1, 21, 30);
        due("apart", x.ahead(0, 1), 1);
        due("apart", x.ahead(1, 0), 0);
        x = with(PLAIN, PLAIN);
        between(x, 0, 10, 20);
        between(x, 1, 20, 30);
        due("touching", x.ahead(0, 1), 2);
        due("touching", x.ahead(1, 0), 0);
        due("twice", x.ahead(0, 0), -1);
        due("no such", x.ahead(0, 2), -1);
        due("no such", x.ahead(2, 0), -1);
        due("no such", x.ahead(-1, 0), -1);
        due("no such", x.ahead(0, -1), -1);
        due("count -1", x.count(11), 5);
    }

    private static void narrow() {
        says("Promise 24");
        BurnedDown x = with("e100,1", "s100,1", "w100,1", "t300,10", "k5,5", "e10,1");
        due("even", x.narrow(0, 50), 1);
        due("even, run down", x.narrow(0, 299), 200);
        due("steps", x.narrow(1, 50), 10);
        due("steps", x.narrow(1, 5), 6);
        due("while, no window", x.narrow(2, 80), 81);
        x.window(40, 59);
        due("while", x.narrow(2, 80), 41);
        due("while", x.narrow(2, 299), 240);
        due("kept", x.narrow(4, 0), 1);
        due("kept", x.narrow(4, 299), 300);
        due("even, run down", x.narrow(5, 9), 1);
        due("even, run down", x.narrow(5, 12), 3);
        // TOWARD stands still when it is 9 from the ROOM: of 51 MINUTES those are alike that began long before.
        int still = 0;
        while (still < 50 && x.left(3, 0, still) != x.left(3, 0, still + 1)) still++;
        due("toward", x.narrow(3, 50), 51 - still);
        x.look(4, 100, 5, 5);
        due("not later than may", x.narrow(4, 299), 101);
        x.look(4, 100, 6, 6);
        due("no ways", x.narrow(4, 299), -9);
        due("no ways by another", x.narrow(0, 299), -9);
        x.doubt(1, true);
        due("not later than the minute", x.narrow(4, 20), 21);
        x.join(5, 4, 1, 100);
        due("may behind", x.narrow(5, 99), -9);
        due("may behind", x.narrow(5, 100), 1);
        BurnedDown single = with("k5,5");
        due("each with one way", single.narrow(0, 9), 10);
        single.look(0, 0, 5, 5);
        due("0", single.narrow(0, 9), 1);
        due("no such", x.narrow(6, -1), -1);
        due("no such", x.narrow(-1, 300), -1);
        due("below", x.narrow(0, -1), -4);
        due("above", x.narrow(0, 300), -6);
        due("count -1", x.count(11), 2);
        due("count -4", x.count(14), 1);
        due("count -6", x.count(16), 1);
    }

    private static void next() {
        says("Promise 25");
        due("no things", new BurnedDown().next(0), -9);
        BurnedDown x = with("k5,5", "s1000,1", "e1000,1", "e1000,2");
        due("the least of several", x.next(0), 0);
        due("steps as well as even", x.next(1), 2);
        due("even", x.next(100), 2);
        due("even", x.next(299), 2);
        x.join(2, 0, 0, 100);
        x.join(3, 0, 0, 100);
        due("not one that has none", x.next(50), 1);
        due("others again", x.next(100), 2);
        x.look(0, 30, 5, 5);
        due("others again", x.next(99), 1);
        x.look(1, 0, 0, 0);
        due("no ways", x.next(99), -9);
        due("below", x.next(-1), -4);
        due("above", x.next(300), -6);
        due("count -4", x.count(14), 1);
        due("count -6", x.count(16), 1);
    }

    private static void image() {
        says("Promise 26");
        BurnedDown x = new BurnedDown();
        due("image of none", x.image(), 0);
        thing(x, PLAIN);
        due("image", x.image(), 1);
        thing(x, PLAIN);
        due("the later one", x.image(), 2);
        thing(x, PLAIN);
        due("on", x.on(), 2);
        // The image is not changed by what comes behind it.
        between(x, 0, 0, 9);
        x.image();
        x.doubt(0, true);
        x.join(1, 0, 0, 0);
        due("on", x.on(), 2);
        due("ways", x.ways(), 3000);
    }

    private static void on() {
        says("Promise 27");
        BurnedDown x = new BurnedDown();
        due("none", x.on(), -3);
        due("none", x.on(), -3);
        due("count -3", x.count(13), 2);
        x = with("w100,1", "t100,10", "e100,1");
        x.window(10, 19);
        x.room(500);
        x.candidate(5, 6);
        x.look(0, 100, 90, 90);
        x.look(2, 100, 50, 60);
        x.doubt(1, true);
        x.join(1, 0, 3, 7);
        x.feed(2, 0x3165);
        x.put(3);
        x.can(0, 300);
        long ways = x.ways();
        int toward = x.left(1, 0, 5);
        due("image", x.image(), 3);
        thing(x, ",1");
        x.window(-1, 0);
        x.room(7);
        x.candidate(7, 8);
        x.candidate(7, 9);
        x.look(0, 0, 0, 0);
        x.doubt(1, false);
        x.doubt(0, true);
        x.join(1, -1, 0, 0);
        x.join(2, 1, 0, 5);
        x.feed(3, 0x656565);
        x.put(4);
        x.can(0, -1);
        due("other ways", x.ways() == ways ? 1 : 0, 0);
        for (int times = 0; times < 2; times++) {
            due("on", x.on(), 3);
            due("things", x.count(0), 3);
            due("looks", x.count(1), 2);
            due("doubted", x.count(2), 1);
            due("joinings", x.count(3), 1);
            due("candidates", x.count(4), 1);
            due("the tape stays", x.count(5), 3);
            due("the row is not in the image", x.count(6), 2);
            due("refusals stay", x.count(16), 1);
            due("refusals stay", x.count(14), 1);
            due("ways", x.ways(), ways);
            due("window", x.left(0, 0, 15), 95);
            due("room", x.left(1, 0, 5), toward);
            due("room", x.room(300), 500);
            due("a look again", x.look(2, 0, 5, 5), 2);
            due("a thing has no joining", x.join(2, 0, 1, 1), 1);
        }
        // Nothing is left of THINGS that are no more.
        x = new BurnedDown();
        x.candidate(1, 2);
        x.image();
        thing(x, PLAIN);
        thing(x, PLAIN);
        thing(x, PLAIN);
        x.join(1, 0, 0, 299);
        x.join(2, 1, 0, 1);
        due("doubts", x.doubts(), -9);
        due("on", x.on(), 0);
        due("doubts", x.doubts(), 0);
        due("ways", x.ways(), 1);
        due("hangs", x.hangs(), -9);
        due("opened", x.opened(), 0);
        due("next", x.next(9), -9);
        // A THING made anew has no JOINING left from one that was.
        x = with(PLAIN);
        x.image();
        thing(x, PLAIN);
        x.join(1, 0, 0, 0);
        between(x, 1, 5, 6);
        due("ways", x.ways(), 2);
        x.on();
        thing(x, PLAIN);
        due("joinings", x.count(3), 0);
        due("ways", x.ways(), 90000);
    }

    private static void count() {
        says("Promise 28");
        BurnedDown x = with(PLAIN, PLAIN, PLAIN);
        x.look(0, 1, 1, 1);
        x.look(0, 1, 1, 1);
        x.doubt(1, true);
        x.join(1, 0, 0, 0);
        x.join(2, 0, 0, 0);
        for (int i = 0; i < 4; i++) x.candidate(0, 0);
        x.feed(5, 0);
        x.put(0);
        due("things", x.count(0), 3);
        due("looks", x.count(1), 2);
        due("doubted", x.count(2), 1);
        due("joinings", x.count(3), 2);
        due("candidates", x.count(4), 4);
        due("bytes", x.count(5), 5);
        due("row", x.count(6), 1);
        x.alone(9);
        x.ahead(1, 1);
        x.thingOf(0, 9);
        x.run(0, 0, 9);
        x.join(1, 0, 9, 0);
        x.on();
        x.put(-1);
        x.put(300);
        x.put(300);
        x.feed(9, 0);
        x.room(99999);
        due("-1", x.count(11), 2);
        due("-2", x.count(12), 3);
        due("-3", x.count(13), 1);
        due("-4", x.count(14), 1);
        due("-5", x.count(15), 0);
        due("-6", x.count(16), 4);
        for (int what : new int[] {-1, 7, 8, 9, 10, 17, 18, Integer.MAX_VALUE, Integer.MIN_VALUE}) {
            due("count " + what, x.count(what), -9);
        }
        due("-9 is not counted", x.count(11) + x.count(12) + x.count(14) + x.count(16), 10);
        x.chance(9, 0, 0);
        due("a long that is a refusal", x.count(11), 3);
    }

    public static void main(String[] args) {
        newObject();
        feed();
        things();
        thingOf();
        room();
        window();
        candidate();
        left();
        look();
        doubt();
        join();
        alone();
        can();
        ways();
        may();
        run();
        chance();
        put();
        judge();
        doubts();
        opened();
        hangs();
        ahead();
        narrow();
        next();
        image();
        on();
        count();
        end("PromiseTests");
    }
}
