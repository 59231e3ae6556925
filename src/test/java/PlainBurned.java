import java.math.BigInteger;
import java.util.ArrayList;
import java.util.BitSet;
import java.util.List;
import java.util.TreeMap;
import java.util.TreeSet;

/**
 * The document done over in the plainest way, as a measure for BurnedDown: every WAY is told one by one, every set
 * of LOOKS is tried. Where there are too many WAYS to tell them, Arcs answers; where there are few, both must agree.
 */
final class PlainBurned {
    private static final int MOST_WAYS = 60_000;
    private static final int MOST_STEPS = 500_000;

    record Thing(char law, int beginning, int pace) { }

    record Look(int thing, int minute, int low, int high) { }

    record Join(int other, int kind, int n) { }

    record Span(int from, int to) { }

    private List<Thing> things = new ArrayList<>();
    private List<Look> looks = new ArrayList<>();
    private List<Boolean> doubted = new ArrayList<>();
    private List<Join> joins = new ArrayList<>();
    private List<Span> candidates = new ArrayList<>();
    private Span window = null;
    private int room = 200;

    private List<Thing> thenThings = null;
    private List<Look> thenLooks;
    private List<Boolean> thenDoubted;
    private List<Join> thenJoins;
    private List<Span> thenCandidates;
    private Span thenWindow;
    private int thenRoom;

    private final StringBuilder tape = new StringBuilder();
    private final List<Integer> row = new ArrayList<>();
    private final int[] refusals = new int[7];
    private int steps;

    long feed(int n, long bytes) {
        if (n < 1) return refuse(-4);
        if (n > 8) return refuse(-6);
        if (tape.length() + n > 20) return refuse(-6);
        for (int i = 0; i < n; i++) tape.append((char) ((bytes >> (8 * i)) & 0xff));
        return tape.length();
    }

    long thing() {
        if (things.size() == 6) return refuse(-6);
        String text = tape.toString();
        tape.setLength(0);
        int place = fault(text);
        if (place >= 0) return -20 - place;
        int comma = text.indexOf(',');
        things.add(new Thing(text.charAt(0), Integer.parseInt(text.substring(1, comma)),
                Integer.parseInt(text.substring(comma + 1))));
        joins.add(null);
        return things.size() - 1;
    }

    /** The first place at which no text that can stand goes on as this one does. */
    private static int fault(String text) {
        if (text.matches("[etswdk][0-9]{1,4},[0-9]{1,2}")) return -1;
        for (int i = 0; i < text.length(); i++) {
            if (!canBegin(text.substring(0, i + 1))) return i;
        }
        return text.length();
    }

    private static boolean canBegin(String text) {
        return text.matches("[etswdk]([0-9]{0,4}|[0-9]{1,4},[0-9]{0,2})");
    }

    long thingOf(int thing, int what) {
        if (!is(thing)) return refuse(-1);
        if (what < 0 || what > 2) return refuse(-2);
        Thing t = things.get(thing);
        return what == 0 ? "etswdk".indexOf(t.law()) : what == 1 ? t.beginning() : t.pace();
    }

    long room(int v) {
        if (v < 0) return refuse(-4);
        if (v > 9999) return refuse(-6);
        int was = room;
        room = v;
        return was;
    }

    long window(int from, int to) {
        if (from == -1) {
            window = null;
            return 1;
        }
        if (from < 0 || to < 0 || to < from) return refuse(-4);
        if (from > 299 || to > 299) return refuse(-6);
        window = new Span(from, to);
        return 1;
    }

    long candidate(int from, int to) {
        if (from < 0 || to < 0 || to < from) return refuse(-4);
        if (from > 299 || to > 299) return refuse(-6);
        if (candidates.size() == 4) return refuse(-6);
        candidates.add(new Span(from, to));
        return candidates.size();
    }

    long left(int thing, int b, int a) {
        if (!is(thing)) return refuse(-1);
        if (b < 0 || a < 0) return refuse(-4);
        if (b > 299 || a > 299) return refuse(-6);
        return leftOf(things.get(thing), b, a, window);
    }

    private int leftOf(Thing t, int b, int a, Span open) {
        int left = t.beginning();
        for (int i = 1; i <= a; i++) {
            int minute = b + i - 1;
            boolean in = open != null && open.from() <= minute && minute <= open.to();
            switch (t.law()) {
                case 'e' -> left -= t.pace();
                case 's' -> left -= i % 10 == 0 ? 10 * t.pace() : 0;
                case 'w' -> left -= in ? t.pace() : 0;
                case 't' -> left = nearer(left, t.pace());
                case 'd' -> left = nearer(left, in ? Math.min(100, 2 * t.pace()) : t.pace());
                default -> { }
            }
        }
        return Math.max(0, left);
    }

    private int nearer(int left, int hundredths) {
        int far = Math.abs(room - left) * hundredths / 100;
        return left < room ? left + far : left - far;
    }

    long look(int thing, int minute, int low, int high) {
        if (!is(thing)) return refuse(-1);
        if (minute < 0 || low < 0 || high < 0 || high < low) return refuse(-4);
        if (minute > 299 || low > 9999 || high > 9999) return refuse(-6);
        if (looks.size() == 10) return refuse(-6);
        looks.add(new Look(thing, minute, low, high));
        doubted.add(false);
        return looks.size() - 1;
    }

    long doubt(int look, boolean is) {
        if (look < 0 || look >= looks.size()) return refuse(-1);
        return doubted.set(look, is) == is ? 0 : 1;
    }

    long join(int thing, int other, int kind, int n) {
        if (!is(thing)) return refuse(-1);
        if (other != -1 && (!is(other) || other >= thing)) return refuse(-1);
        if (other == -1) {
            joins.set(thing, null);
            return 1;
        }
        if (kind < 0 || kind > 3) return refuse(-2);
        if (n < 0) return refuse(-4);
        if (n > 299) return refuse(-6);
        joins.set(thing, new Join(other, kind, n));
        return 1;
    }

    private boolean fits(Look look, int b, Span open) {
        if (b > look.minute()) return false;
        int left = leftOf(things.get(look.thing()), b, look.minute() - b, open);
        return look.low() <= left && left <= look.high();
    }

    static boolean keeps(Join join, int mine, int others) {
        return switch (join.kind()) {
            case 0 -> mine == others + join.n();
            case 1 -> mine >= others + join.n();
            case 2 -> mine <= others - join.n();
            default -> Math.abs(mine - others) <= join.n();
        };
    }

    private boolean[][] fitting(Span open) {
        boolean[][] fitting = new boolean[looks.size()][300];
        for (int k = 0; k < looks.size(); k++) {
            for (int b = 0; b < 300; b++) fitting[k][b] = fits(looks.get(k), b, open);
        }
        return fitting;
    }

    /** Those MINUTES that no LOOK speaks against but those left out (as bits). */
    private List<Integer> aloneOf(int thing, int out, boolean[][] fitting) {
        List<Integer> minutes = new ArrayList<>();
        for (int b = 0; b < 300; b++) {
            boolean all = true;
            for (int k = 0; k < looks.size() && all; k++) {
                if (looks.get(k).thing() == thing && (out >> k & 1) == 0) all = fitting[k][b];
            }
            if (all) minutes.add(b);
        }
        return minutes;
    }

    private int doubtedBits() {
        int bits = 0;
        for (int k = 0; k < looks.size(); k++) bits |= doubted.get(k) ? 1 << k : 0;
        return bits;
    }

    long alone(int thing) {
        if (!is(thing)) return refuse(-1);
        return aloneOf(thing, doubtedBits(), fitting(window)).size();
    }

    long can(int thing, int minute) {
        if (!is(thing)) return refuse(-1);
        if (minute < 0) return refuse(-4);
        if (minute > 299) return refuse(-6);
        return aloneOf(thing, doubtedBits(), fitting(window)).contains(minute) ? 1 : 0;
    }

    /** All WAYS (as many as asked for at most); null if that would take too long. */
    private List<int[]> allWays(int out, boolean[][] fitting, int most) {
        List<List<Integer>> each = new ArrayList<>();
        for (int t = 0; t < things.size(); t++) each.add(aloneOf(t, out, fitting));
        List<int[]> found = new ArrayList<>();
        for (List<Integer> one : each) {
            if (one.isEmpty()) return found;
        }
        steps = 0;
        return tell(each, new int[things.size()], 0, found, most) ? found : null;
    }

    private boolean tell(List<List<Integer>> each, int[] way, int t, List<int[]> found, int most) {
        if (t == way.length) {
            found.add(way.clone());
            return true;
        }
        for (int b : each.get(t)) {
            if (found.size() >= most) return most == 1;
            steps++;
            if (steps > MOST_STEPS) return false;
            Join join = joins.get(t);
            if (join != null && !keeps(join, b, way[join.other()])) continue;
            way[t] = b;
            if (!tell(each, way, t + 1, found, most)) return false;
        }
        return true;
    }

    private List<int[]> now() {
        return allWays(doubtedBits(), fitting(window), MOST_WAYS);
    }

    private BitSet[] alones(int out, boolean[][] fitting) {
        BitSet[] alone = new BitSet[things.size()];
        for (int t = 0; t < alone.length; t++) {
            alone[t] = new BitSet(Arcs.MINUTES);
            for (int b : aloneOf(t, out, fitting)) alone[t].set(b);
        }
        return alone;
    }

    private BitSet[] alonesNow() {
        return alones(doubtedBits(), fitting(window));
    }

    private static void agree(boolean same) {
        if (!same) throw new IllegalStateException("the plain model does not agree with itself");
    }

    private long waysBut(int out) {
        boolean[][] fitting = fitting(window);
        BigInteger counted = new Arcs(joins).ways(alones(out, fitting));
        List<int[]> all = allWays(out, fitting, MOST_WAYS);
        agree(all == null || counted.equals(BigInteger.valueOf(all.size())));
        return counted.longValueExact();
    }

    private boolean someWay(int out, boolean[][] fitting) {
        boolean some = new Arcs(joins).some(alones(out, fitting));
        List<int[]> one = allWays(out, fitting, 1);
        agree(one == null || some == !one.isEmpty());
        return some;
    }

    long ways() {
        return waysBut(doubtedBits());
    }

    private TreeSet<Integer> mayOf(int thing) {
        TreeSet<Integer> may = new TreeSet<>();
        new Arcs(joins).may(alonesNow())[thing].stream().forEach(may::add);
        List<int[]> all = now();
        if (all != null) {
            TreeSet<Integer> told = new TreeSet<>();
            for (int[] way : all) told.add(way[thing]);
            agree(told.equals(may));
        }
        return may;
    }

    long may(int thing) {
        if (!is(thing)) return refuse(-1);
        return mayOf(thing).size();
    }

    long run(int thing, int i, int what) {
        if (!is(thing)) return refuse(-1);
        if (what < 0 || what > 1) return refuse(-2);
        List<int[]> runs = new ArrayList<>();
        for (int b : mayOf(thing)) {
            if (!runs.isEmpty() && runs.get(runs.size() - 1)[1] == b - 1) runs.get(runs.size() - 1)[1] = b;
            else runs.add(new int[] {b, b});
        }
        return i < 0 || i >= runs.size() ? -9 : runs.get(i)[what];
    }

    long chance(int thing, int minute, int part) {
        if (!is(thing)) return refuse(-1);
        if (part < 0 || part > 1) return refuse(-2);
        if (minute < 0) return refuse(-4);
        if (minute > 299) return refuse(-6);
        long all = waysBut(doubtedBits());
        BigInteger with = BigInteger.valueOf(waysWith(thing, minute));
        if (with.signum() == 0) return part;
        BigInteger above = with.divide(with.gcd(BigInteger.valueOf(all)));
        return part == 0 ? above.longValueExact() : all / (with.longValueExact() / above.longValueExact());
    }

    private long waysWith(int thing, int minute) {
        BitSet[] alone = alonesNow();
        boolean stands = alone[thing].get(minute);
        alone[thing].clear();
        alone[thing].set(minute, stands);
        long with = new Arcs(joins).ways(alone).longValueExact();
        List<int[]> all = now();
        agree(all == null || all.stream().filter(way -> way[thing] == minute).count() == with);
        return with;
    }

    long put(int v) {
        if (v < 0) return refuse(-4);
        if (v > 299) return refuse(-6);
        if (row.size() == 6) return refuse(-6);
        row.add(v);
        return row.size();
    }

    long judge() {
        List<Integer> told = new ArrayList<>(row);
        row.clear();
        if (told.size() < things.size()) return 1000;
        if (told.size() > things.size()) return 1001;
        for (int t = 0; t < things.size(); t++) {
            for (int k = 0; k < looks.size(); k++) {
                if (looks.get(k).thing() == t && !doubted.get(k) && !fits(looks.get(k), told.get(t), window)) {
                    return 100 + k;
                }
            }
            Join join = joins.get(t);
            if (join != null && !keeps(join, told.get(t), told.get(join.other()))) return t;
        }
        return -9;
    }

    long doubts() {
        int already = doubtedBits();
        int best = -9;
        boolean[][] fitting = fitting(window);
        for (int set = 0; set < 1 << looks.size(); set++) {
            if ((set & already) != 0) continue;
            if (best >= 0 && Integer.bitCount(set) >= Integer.bitCount(best)) continue;
            if (someWay(set | already, fitting)) best = set;
        }
        return best;
    }

    long opened() {
        for (int i = 0; i < candidates.size(); i++) {
            if (someWay(doubtedBits(), fitting(candidates.get(i)))) return i;
        }
        return -9;
    }

    long hangs() {
        long most = ways();
        int found = -9;
        for (int t = 0; t < things.size(); t++) {
            int out = doubtedBits();
            for (int k = 0; k < looks.size(); k++) out |= looks.get(k).thing() == t ? 1 << k : 0;
            long without = waysBut(out);
            if (without > most) {
                most = without;
                found = t;
            }
        }
        return found;
    }

    long ahead(int one, int other) {
        if (!is(one) || !is(other) || one == other) return refuse(-1);
        int ahead = new Arcs(joins).ahead(alonesNow(), one, other);
        List<int[]> all = now();
        agree(all == null || ahead == aheadByWays(all, one, other));
        return ahead;
    }

    private static int aheadByWays(List<int[]> all, int one, int other) {
        if (all.isEmpty()) return -9;
        int before = 0;
        for (int[] way : all) before += way[one] < way[other] ? 1 : 0;
        return before == all.size() ? 1 : before == 0 ? 0 : 2;
    }

    long narrow(int thing, int minute) {
        if (!is(thing)) return refuse(-1);
        if (minute < 0) return refuse(-4);
        if (minute > 299) return refuse(-6);
        return alike(thing, minute);
    }

    private long alike(int thing, int minute) {
        TreeMap<Integer, Integer> numbers = new TreeMap<>();
        for (int b : mayOf(thing)) {
            if (b <= minute) numbers.merge(leftOf(things.get(thing), b, minute - b, window), 1, Integer::sum);
        }
        return numbers.values().stream().max(Integer::compare).orElse(-9);
    }

    long next(int minute) {
        if (minute < 0) return refuse(-4);
        if (minute > 299) return refuse(-6);
        int found = -9;
        long least = 0;
        for (int t = things.size() - 1; t >= 0; t--) {
            long alike = alike(t, minute);
            if (alike != -9 && (found == -9 || alike <= least)) {
                found = t;
                least = alike;
            }
        }
        return found;
    }

    long image() {
        thenThings = new ArrayList<>(things);
        thenLooks = new ArrayList<>(looks);
        thenDoubted = new ArrayList<>(doubted);
        thenJoins = new ArrayList<>(joins);
        thenCandidates = new ArrayList<>(candidates);
        thenWindow = window;
        thenRoom = room;
        return things.size();
    }

    long on() {
        if (thenThings == null) return refuse(-3);
        things = new ArrayList<>(thenThings);
        looks = new ArrayList<>(thenLooks);
        doubted = new ArrayList<>(thenDoubted);
        joins = new ArrayList<>(thenJoins);
        candidates = new ArrayList<>(thenCandidates);
        window = thenWindow;
        room = thenRoom;
        return things.size();
    }

    long count(int what) {
        switch (what) {
            case 0: return things.size();
            case 1: return looks.size();
            case 2: return doubted.stream().filter(d -> d).count();
            case 3: return joins.stream().filter(j -> j != null).count();
            case 4: return candidates.size();
            case 5: return tape.length();
            case 6: return row.size();
            default: return what >= 11 && what <= 16 ? refusals[what - 10] : -9;
        }
    }

    private boolean is(int thing) {
        return thing >= 0 && thing < things.size();
    }

    private long refuse(int number) {
        refusals[-number]++;
        return number;
    }
}
