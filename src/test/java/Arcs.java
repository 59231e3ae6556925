import java.math.BigInteger;
import java.util.BitSet;
import java.util.HashMap;
import java.util.List;
import java.util.Map;

/**
 * What is asked of all WAYS when there are too many to be told one by one. MINUTES are struck out along each JOINING
 * until nothing changes: JOININGS make trees, so what then stands is MAY. WAYS are counted pair of MINUTES by pair.
 */
final class Arcs {
    static final int MINUTES = 300;

    /**
     * For each MINUTE of a THING those that the one that it is joined to can have with it; and for each of that one's
     * those that it can have itself.
     */
    private record Partners(BitSet[] others, BitSet[] own) { }

    private static final Map<PlainBurned.Join, Partners> FOUND = new HashMap<>();
    private final List<PlainBurned.Join> joins;
    private final Partners[] partners;

    Arcs(List<PlainBurned.Join> joins) {
        this.joins = joins;
        partners = new Partners[joins.size()];
        for (int t = 0; t < joins.size(); t++) {
            if (joins.get(t) != null) partners[t] = FOUND.computeIfAbsent(joins.get(t), Arcs::find);
        }
    }

    private static Partners find(PlainBurned.Join join) {
        Partners found = new Partners(new BitSet[MINUTES], new BitSet[MINUTES]);
        for (int b = 0; b < MINUTES; b++) {
            found.others[b] = new BitSet(MINUTES);
            found.own[b] = new BitSet(MINUTES);
            for (int c = 0; c < MINUTES; c++) {
                found.others[b].set(c, PlainBurned.keeps(join, b, c));
                found.own[b].set(c, PlainBurned.keeps(join, c, b));
            }
        }
        return found;
    }

    private static BitSet[] copy(BitSet[] sets) {
        BitSet[] copied = new BitSet[sets.length];
        for (int t = 0; t < sets.length; t++) copied[t] = (BitSet) sets[t].clone();
        return copied;
    }

    /** MAY of each THING; none of any, if there are no WAYS. */
    BitSet[] may(BitSet[] alone) {
        BitSet[] may = copy(alone);
        boolean changed = true;
        while (changed) {
            changed = false;
            for (int t = 0; t < may.length; t++) {
                if (joins.get(t) == null) continue;
                int other = joins.get(t).other();
                changed |= strike(may[t], partners[t].others, may[other]);
                changed |= strike(may[other], partners[t].own, may[t]);
            }
        }
        boolean none = false;
        for (BitSet one : may) none |= one.isEmpty();
        for (BitSet one : may) {
            if (none) one.clear();
        }
        return may;
    }

    /** Strikes out what has no partner. */
    private static boolean strike(BitSet minutes, BitSet[] partnersOf, BitSet there) {
        int before = minutes.cardinality();
        for (int b = minutes.nextSetBit(0); b >= 0; b = minutes.nextSetBit(b + 1)) {
            if (!partnersOf[b].intersects(there)) minutes.clear(b);
        }
        return minutes.cardinality() != before;
    }

    boolean some(BitSet[] alone) {
        return alone.length == 0 || !may(alone)[0].isEmpty();
    }

    BigInteger ways(BitSet[] alone) {
        BigInteger all = BigInteger.ONE;
        BigInteger[][] with = new BigInteger[alone.length][MINUTES];
        for (int t = alone.length - 1; t >= 0; t--) {
            BigInteger sum = BigInteger.ZERO;
            for (int b = 0; b < MINUTES; b++) {
                with[t][b] = alone[t].get(b) ? BigInteger.ONE : BigInteger.ZERO;
                for (int c = t + 1; c < alone.length && with[t][b].signum() > 0; c++) {
                    if (joins.get(c) != null && joins.get(c).other() == t) {
                        with[t][b] = with[t][b].multiply(sum(partners[c].own[b], with[c]));
                    }
                }
                sum = sum.add(with[t][b]);
            }
            if (joins.get(t) == null) all = all.multiply(sum);
        }
        return all;
    }

    private static BigInteger sum(BitSet minutes, BigInteger[] with) {
        BigInteger sum = BigInteger.ZERO;
        for (int b = minutes.nextSetBit(0); b >= 0; b = minutes.nextSetBit(b + 1)) sum = sum.add(with[b]);
        return sum;
    }

    /** AHEAD, by each MINUTE of the one. */
    int ahead(BitSet[] alone, int one, int other) {
        boolean before = false;
        boolean notBefore = false;
        for (int b = 0; b < MINUTES; b++) {
            if (!alone[one].get(b)) continue;
            BitSet[] with = copy(alone);
            with[one].clear();
            with[one].set(b);
            BitSet may = may(with)[other];
            before |= may.nextSetBit(b + 1) >= 0;
            notBefore |= may.nextSetBit(0) >= 0 && may.nextSetBit(0) <= b;
        }
        return before ? notBefore ? 2 : 1 : notBefore ? 0 : -9;
    }
}
