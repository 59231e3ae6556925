/** What the tests share: answers that are due, told under the words of the document that ask for them. */
abstract class Due {
    static final String PLAIN = "e1000,1";

    private static int wrong = 0;
    private static int asked = 0;
    private static String words = "";

    /** The words of the document that the next answers are due by. */
    static void says(String sentence) {
        words = sentence;
    }

    static void due(String call, long got, long want) {
        asked++;
        if (got != want) {
            wrong++;
            System.out.println(words + " | " + call + " answered " + got + ", due is " + want);
        }
    }

    static void end(String test) {
        System.out.println(test + ": " + (wrong == 0 ? "all " + asked : wrong + " of " + asked) + " answers are "
                + (wrong == 0 ? "as due" : "not as due"));
        if (wrong != 0 || asked == 0) System.exit(1);
    }

    static void feedText(BurnedDown x, String text) {
        for (int i = 0; i < text.length(); i += 8) {
            int n = Math.min(8, text.length() - i);
            long bytes = 0;
            for (int j = 0; j < n; j++) bytes |= (long) text.charAt(i + j) << 8 * j;
            x.feed(n, bytes);
        }
    }

    static int thing(BurnedDown x, String text) {
        feedText(x, text);
        return x.thing();
    }

    static BurnedDown with(String... texts) {
        BurnedDown x = new BurnedDown();
        for (int i = 0; i < texts.length; i++) due("thing " + texts[i], thing(x, texts[i]), i);
        return x;
    }

    /** Six EVEN THINGS of 1000 and 1. */
    static BurnedDown six() {
        return with(PLAIN, PLAIN, PLAIN, PLAIN, PLAIN, PLAIN);
    }

    /** A LOOK that leaves MINUTES from .. to of an EVEN THING of 1000 and 1. */
    static int between(BurnedDown x, int thing, int from, int to) {
        return x.look(thing, 299, 1000 - 299 + from, 1000 - 299 + to);
    }

    static int judged(BurnedDown x, int... minutes) {
        for (int minute : minutes) x.put(minute);
        return x.judge();
    }
}
