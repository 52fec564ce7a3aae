/**
 * Every number of every call at its ends: the least and the greatest that are as told, those beside them, and those
 * that would fit again if they were cut to a byte or a short. A call that is refused changes nothing.
 */
public final class RangesTest {
    private static final int MAX = Integer.MAX_VALUE, MIN = Integer.MIN_VALUE, BAD = GuardNets.BAD;

    /** For each call its numbers, as least..greatest, in the house of Houses.common(): 10 KNOTS, 3 GUARDS and so on. */
    private static final String[] RANGES = {
        "step 0..15 0..1000 1..50 0..1000", "trace 0..15 0..255 0..7", "about 0..15 0..4", "write 0..127", "make 0..9", "knot 0..9 0..4",
        "part 0..9 0..2147483647", "reaches 0..9 0..65535", "ways 0..9", "wayAt 0..9 0..2147483647", "least 0..9 0..1", "leastWay 0..9 0..1",
        "many 0..9", "size 0..9", "chance 0..9", "weight 0..9 0..15", "best 0..9 0..16000", "limbs 0..1", "limb 0..1 0..2147483647",
        "guard 0..65535 0..1000", "holds 0..9 0..7", "leastGuards 0..9", "front 0..9", "frontAt 0..9 0..2147483647 0..1",
        "catches 0..1 0..15 0..1000", "game 0..9", "insider 0..65535", "worst 0..9 0..2 0..1", "may 0..9 0..255 0..255", "ask 0..9 0..255 0..255",
        "event 0..15 7..10000", "reached 0..9 0..3", "walk 0..3 0..7", "home 0..3", "stands 0..7 0..10000", "begins 0..15 0..600",
        "end 0..65535 0..600", "orderAt 0..65535 0..600 0..2147483647", "image 0..1", "differ 0..1", "from 0..1", "count 0..6"};

    public static void main(String[] args) {
        int numbers = 0;
        for (String row : RANGES) {
            String[] words = row.split(" ");
            int[] low = new int[words.length - 1], high = new int[words.length - 1];
            for (int i = 0; i < low.length; i++) {
                String[] ends = words[i + 1].split("\\.\\.");
                low[i] = Integer.parseInt(ends[0]);
                high[i] = Integer.parseInt(ends[1]);
            }
            Due.is("numbers of " + words[0], low.length, Calls.arguments(words[0]));
            for (int i = 0; i < low.length; i++) atItsEnds(words[0], low, high, i);
            numbers += low.length;
        }
        callsOfNoNumbers();
        Due.is("the calls of some numbers and of none", RANGES.length + 6, Calls.NAMES.length);
        Due.is("numbers in all", numbers, 77);
        Due.end();
    }

    private static void atItsEnds(String name, int[] low, int[] high, int i) {
        int[] beside = {low[i] - 1, high[i] + 1, MIN, MAX, low[i] - 256, low[i] + 256, low[i] - 65536, low[i] + 65536, high[i] - 65536,
            low[i] + (1 << 30), ~high[i]};
        // In the first of its NETS and in one that is not there: BAD is ahead of NO.
        for (int other = 0; other < 2; other++) {
            int[] a = (other == 0 ? low : high).clone();
            // SEEN and MISSED may have none in common.
            if (other == 1 && (name.equals("may") || name.equals("ask"))) a[2] = 0;
            for (int v : beside) {
                if (v >= low[i] && v <= high[i]) continue;
                a[i] = v;
                Rows.refused("too small, too large", Houses.common(), rowOf(name, a), BAD);
            }
        }
        int[] a = low.clone();
        int[] ends = {low[i], high[i]};
        for (int end : ends) {
            a[i] = end;
            Due.is(rowOf(name, a) + " is as told", Rows.call(Houses.common(), rowOf(name, a)) == BAD ? 1 : 0, 0);
        }
    }

    private static String rowOf(String name, int[] a) {
        StringBuilder row = new StringBuilder(name);
        for (int v : a) row.append(' ').append(v);
        return row.toString();
    }

    private static void callsOfNoNumbers() {
        String[] names = {"erase", "clear", "patrol", "rest", "soon", "digest"};
        for (String name : names) {
            Due.is("numbers of " + name, Calls.arguments(name), 0);
            Due.is(name, Rows.call(Houses.common(), name) == BAD ? 1 : 0, 0);
        }
    }
}
