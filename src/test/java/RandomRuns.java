/**
 * Long runs of calls on BurnedDown and on PlainBurned, side by side. The calls are drawn from a row of numbers that
 * is always the same.
 */
public final class RandomRuns {
    private static final int RUNS = 150;
    private static int wrong = 0;
    private static int compared = 0;
    private static long drawn;

    private final BurnedDown real = new BurnedDown();
    private final PlainBurned plain = new PlainBurned();
    private final StringBuilder told = new StringBuilder();
    /** MINUTES with which most LOOKS and JOININGS of the run agree, so that there are WAYS with many of them. */
    private final int[] truth = new int[6];
    private int calls = 0;
    private boolean good = true;

    /** 0 .. below - 1. */
    private static int draw(int below) {
        drawn = drawn * 6364136223846793005L + 1442695040888963407L;
        return (int) ((drawn >>> 33) % below);
    }

    private static boolean oneIn(int n) {
        return draw(n) == 0;
    }

    private void due(String call, long got, long want) {
        calls++;
        told.append(call).append(" = ").append(got).append('\n');
        compared++;
        if (got != want && good) {
            good = false;
            wrong++;
            System.out.println("a run went wrong: " + call + " answered " + got + ", due is " + want + "; the run:\n" + told);
        }
    }

    private static String text(Object... arguments) {
        StringBuilder out = new StringBuilder("(");
        for (int i = 0; i < arguments.length; i++) out.append(i == 0 ? "" : ", ").append(arguments[i]);
        return out.append(')').toString();
    }

    private void feedText(String text) {
        for (int i = 0; i < text.length(); i += 8) {
            int n = Math.min(8, text.length() - i);
            long bytes = oneIn(2) && n < 8 ? -1L << 8 * n : 0;
            for (int j = 0; j < n; j++) bytes |= (long) text.charAt(i + j) << 8 * j;
            due("feed" + text(n, bytes), real.feed(n, bytes), plain.feed(n, bytes));
        }
    }

    private void makeThing() {
        String text = "" + "etswdk".charAt(draw(6)) + draw(oneIn(3) ? 10000 : 1000) + "," + draw(oneIn(4) ? 100 : 12);
        if (oneIn(12)) {
            int at = draw(text.length() + 1);
            String odd = "x,:/09" + (char) 200;
            text = text.substring(0, at) + odd.charAt(draw(odd.length())) + text.substring(Math.min(text.length(), at + draw(2)));
        }
        if (oneIn(25)) text = text.substring(0, draw(text.length()));
        feedText(text);
        due("thing()", real.thing(), plain.thing());
    }

    /** Mostly in 0 .. below - 1, now and then beside it. */
    private static int number(int below) {
        return oneIn(25) ? (oneIn(2) ? -1 - draw(3) : below + draw(3)) : draw(Math.max(1, below));
    }

    private int anyThing() {
        return number((int) plain.count(0));
    }

    private int anyMinute() {
        return oneIn(12) ? (oneIn(2) ? 0 : 299) : number(300);
    }

    /** A LOOK that some MINUTE fits. */
    private void makeLook() {
        int thing = anyThing();
        int minute = anyMinute();
        int low = draw(1000);
        int high = low + draw(200);
        if (thing >= 0 && thing < plain.count(0) && minute >= 0 && minute < 300 && !oneIn(8)) {
            int a = thing < 6 && truth[thing] <= minute && !oneIn(3) ? minute - truth[thing] : draw(minute + 1);
            int left = real.left(thing, minute - a, a);
            int give = oneIn(3) ? draw(60) : draw(6);
            low = Math.max(0, left - give);
            high = Math.min(9999, left + give);
        }
        if (oneIn(30)) high = oneIn(2) ? 10000 : low - 1;
        due("look" + text(thing, minute, low, high), real.look(thing, minute, low, high), plain.look(thing, minute, low, high));
    }

    private void makeJoin() {
        int thing = anyThing();
        int other = thing > 0 && !oneIn(8) ? draw(thing + 1) - (oneIn(6) ? 1 : 0) : number(6) - 1;
        int kind = number(4);
        int n = oneIn(3) ? number(300) : draw(12);
        if (thing > 0 && thing < 6 && other >= 0 && other < thing && !oneIn(3)) {
            int behind = truth[thing] - truth[other];
            kind = oneIn(3) ? 3 : behind < 0 ? 2 : draw(2);
            n = kind == 0 ? behind : kind == 3 ? Math.min(299, Math.abs(behind) + draw(5)) : draw(Math.abs(behind) + 1);
        }
        due("join" + text(thing, other, kind, n), real.join(thing, other, kind, n), plain.join(thing, other, kind, n));
    }

    private void makeWindow() {
        int from = oneIn(5) ? -1 : anyMinute();
        int to = oneIn(5) ? anyMinute() : from + draw(100);
        if (oneIn(2)) due("window" + text(from, to), real.window(from, to), plain.window(from, to));
        else due("candidate" + text(from, to), real.candidate(from, to), plain.candidate(from, to));
    }

    private void change() {
        switch (draw(14)) {
            case 0, 1 -> makeThing();
            case 2, 3, 4 -> makeLook();
            case 5, 6 -> makeJoin();
            case 7 -> makeWindow();
            case 8, 9 -> {
                int look = number((int) plain.count(1));
                boolean is = oneIn(2);
                due("doubt" + text(look, is), real.doubt(look, is), plain.doubt(look, is));
            }
            case 10 -> {
                int v = oneIn(2) ? 200 : number(10000);
                if (oneIn(3)) due("room" + text(v), real.room(v), plain.room(v));
            }
            case 11 -> {
                if (oneIn(3)) due("image()", real.image(), plain.image());
            }
            case 12 -> {
                if (oneIn(4)) due("on()", real.on(), plain.on());
            }
            default -> {
                int v = anyMinute();
                due("put" + text(v), real.put(v), plain.put(v));
            }
        }
    }

    private void ask() {
        int thing = anyThing();
        int minute = anyMinute();
        switch (draw(16)) {
            case 0 -> {
                int what = number(3);
                due("thingOf" + text(thing, what), real.thingOf(thing, what), plain.thingOf(thing, what));
            }
            case 1 -> {
                int a = anyMinute();
                due("left" + text(thing, minute, a), real.left(thing, minute, a), plain.left(thing, minute, a));
            }
            case 2 -> due("alone" + text(thing), real.alone(thing), plain.alone(thing));
            case 3 -> due("can" + text(thing, minute), real.can(thing, minute), plain.can(thing, minute));
            case 4 -> due("ways()", real.ways(), plain.ways());
            case 5 -> due("may" + text(thing), real.may(thing), plain.may(thing));
            case 6 -> {
                int i = number(3);
                int what = number(2);
                due("run" + text(thing, i, what), real.run(thing, i, what), plain.run(thing, i, what));
            }
            case 7 -> {
                int part = number(2);
                int known = real.run(thing, 0, 0);
                plain.run(thing, 0, 0);
                if (known >= 0 && !oneIn(3)) minute = known;
                due("chance" + text(thing, minute, part), real.chance(thing, minute, part), plain.chance(thing, minute, part));
            }
            case 8 -> {
                for (int t = (int) plain.count(6); t < plain.count(0); t++) {
                    int v = oneIn(9) ? anyMinute() : Math.max(0, real.run(t, 0, draw(2)));
                    due("put" + text(v), real.put(v), plain.put(v));
                }
                due("judge()", real.judge(), plain.judge());
            }
            case 9 -> due("doubts()", real.doubts(), plain.doubts());
            case 10 -> due("opened()", real.opened(), plain.opened());
            case 11 -> due("hangs()", real.hangs(), plain.hangs());
            case 12 -> {
                int other = anyThing();
                due("ahead" + text(thing, other), real.ahead(thing, other), plain.ahead(thing, other));
            }
            case 13 -> due("narrow" + text(thing, minute), real.narrow(thing, minute), plain.narrow(thing, minute));
            case 14 -> due("next" + text(minute), real.next(minute), plain.next(minute));
            default -> {
                int what = draw(19) - 1;
                due("count" + text(what), real.count(what), plain.count(what));
            }
        }
    }

    private void go() {
        int things = oneIn(2) ? 6 : 1 + draw(4);
        int spread = oneIn(2) ? 300 : 20;
        for (int t = 0; t < 6; t++) truth[t] = (300 - spread) / 2 + draw(spread);
        for (int i = 0; i < things; i++) makeThing();
        for (int i = 0; i < things + draw(3); i++) makeLook();
        for (int i = draw(things + 1); i > 0; i--) makeJoin();
        while (calls < 120 && good) {
            if (oneIn(3)) change();
            else ask();
        }
        for (int what = -1; what < 19; what++) due("count" + text(what), real.count(what), plain.count(what));
    }

    public static void main(String[] args) {
        // Two numbers, how many runs and where the row begins, are for longer searches by hand.
        int runs = args.length > 1 ? Integer.parseInt(args[0]) : RUNS;
        drawn = args.length > 1 ? Long.parseLong(args[1]) : 20261118;
        for (int run = 0; run < runs && wrong < 3; run++) new RandomRuns().go();
        System.out.println("RandomRuns: " + compared + " answers compared, " + wrong + " runs wrong");
        if (wrong != 0) System.exit(1);
    }
}
