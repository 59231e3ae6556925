import java.math.BigInteger;

/** WAYS too many to be told one by one: six THINGS, counted along the JOININGS, pair of MINUTES by pair. */
public final class ManyWaysTest {
    private static final int CASES = 60;
    private static int wrong = 0;
    private static long drawn = 4711;

    private final BurnedDown x = new BurnedDown();
    private final boolean[][] alone = new boolean[6][300];
    private final int[] other = {-1, -1, -1, -1, -1, -1};
    private final int[] kind = new int[6];
    private final int[] n = new int[6];
    private final StringBuilder told = new StringBuilder();

    private static int draw(int below) {
        drawn = drawn * 6364136223846793005L + 1442695040888963407L;
        return (int) ((drawn >>> 33) % below);
    }

    private void due(String call, long got, long want) {
        if (got == want) return;
        wrong++;
        System.out.println(call + " answered " + got + ", due is " + want + " in " + told);
    }

    private void make() {
        for (int t = 0; t < 6; t++) {
            for (char c : "e1000,1".toCharArray()) x.feed(1, c);
            x.thing();
            int from = draw(3) == 0 ? draw(200) : 0;
            int to = draw(3) == 0 ? from + draw(300 - from) : 299;
            x.look(t, 299, 701 + from, 701 + to);
            for (int b = from; b <= to; b++) alone[t][b] = true;
            told.append(t).append(": ").append(from).append(" .. ").append(to);
            if (t > 0 && draw(4) > 0) {
                other[t] = draw(t);
                kind[t] = draw(4);
                n[t] = draw(kind[t] == 3 ? 300 : 80);
                x.join(t, other[t], kind[t], n[t]);
                told.append(" joined ").append(other[t]).append(' ').append(kind[t]).append(' ').append(n[t]);
            }
            told.append("; ");
        }
    }

    private boolean keeps(int t, int b, int others) {
        int behind = b - others;
        switch (kind[t]) {
            case 0: return behind == n[t];
            case 1: return behind >= n[t];
            case 2: return -behind >= n[t];
            default: return behind <= n[t] && -behind <= n[t];
        }
    }

    /** WAYS of all with one THING (-1: none) at one MINUTE alone. */
    private BigInteger waysWith(int fixed, int minute) {
        BigInteger all = BigInteger.ONE;
        BigInteger[][] below = new BigInteger[6][300];
        for (int t = 5; t >= 0; t--) {
            BigInteger sum = BigInteger.ZERO;
            for (int b = 0; b < 300; b++) {
                below[t][b] = alone[t][b] && (t != fixed || b == minute) ? BigInteger.ONE : BigInteger.ZERO;
                for (int c = t + 1; c < 6 && below[t][b].signum() > 0; c++) {
                    if (other[c] == t) below[t][b] = below[t][b].multiply(sumOf(c, b, below[c]));
                }
                sum = sum.add(below[t][b]);
            }
            if (other[t] < 0) all = all.multiply(sum);
        }
        return all;
    }

    private BigInteger sumOf(int c, int b, BigInteger[] ways) {
        BigInteger sum = BigInteger.ZERO;
        for (int mine = 0; mine < 300; mine++) {
            if (keeps(c, mine, b)) sum = sum.add(ways[mine]);
        }
        return sum;
    }

    private void go() {
        make();
        BigInteger all = waysWith(-1, 0);
        due("ways()", x.ways(), all.longValueExact());
        for (int i = 0; i < 8; i++) {
            int t = draw(6);
            int from = x.run(t, 0, 0);
            int b = from >= 0 && draw(3) > 0 ? from + draw(x.run(t, 0, 1) - from + 1) : draw(300);
            BigInteger with = waysWith(t, b);
            BigInteger g = with.gcd(all);
            long above = with.signum() == 0 ? 0 : with.divide(g).longValueExact();
            long below = with.signum() == 0 ? 1 : all.divide(g).longValueExact();
            due("chance(" + t + ", " + b + ", 0)", x.chance(t, b, 0), above);
            due("chance(" + t + ", " + b + ", 1)", x.chance(t, b, 1), below);
        }
        long most = all.longValueExact();
        int hangs = -9;
        for (int t = 0; t < 6; t++) {
            boolean[] by = alone[t].clone();
            for (int b = 0; b < 300; b++) alone[t][b] = true;
            long without = waysWith(-1, 0).longValueExact();
            System.arraycopy(by, 0, alone[t], 0, 300);
            if (without > most) hangs = t;
            most = Math.max(most, without);
        }
        due("hangs()", x.hangs(), hangs);
    }

    public static void main(String[] args) {
        for (int i = 0; i < CASES; i++) new ManyWaysTest().go();
        System.out.println("ManyWaysTest: " + (wrong == 0 ? "all answers are as due" : wrong + " answers are not as due"));
        if (wrong != 0) System.exit(1);
    }
}
