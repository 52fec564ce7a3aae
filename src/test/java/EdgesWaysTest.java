/** Promises 12 to 16 at their edges: a method for each sentence of the document that names some. */
public final class EdgesWaysTest {
    private static final int MAX = Integer.MAX_VALUE, MIN = Integer.MIN_VALUE;
    private static final int NONE = GuardNets.NONE, BAD = GuardNets.BAD, NO = GuardNets.NO, SPENT = GuardNets.SPENT;

    public static void main(String[] args) {
        noSmallerPartReaches();
        waysOfOneStepAndOfAll();
        waysInOrder();
        twoHundredAreNotAbove();
        oneMoreIsSpent();
        spentAtAKnotWithin();
        spentByKnotsOfTheNetAlone();
        spentBySets();
        spentPartsOfOthers();
        manyRowsInOneNet();
        wayAtItsEnds();
        sumsAtTheirEnds();
        ofLikeOnesTheFirst();
        manyOfSome();
        manyOfRows();
        manyWraps();
        manyWrapsBackAbove();
        whatIsRefused();
        Due.end();
    }

    private static void noSmallerPartReaches() {
        GuardNets x = Due.with("a|a&b", "(a|b)&(a|b)", "a&a", "[2a,a]", "[2a,a,b]", "[1a,a&b,b>c]", "a|a", "[3a,b,a|b]", "(a|b)&c|c");
        int[][] due = {{1}, {1, 2}, {1}, {1}, {1}, {1, 6}, {1}, {3}, {4}};
        for (int net = 0; net < due.length; net++) {
            Due.is("12 ways " + net, x.ways(net), due[net].length);
            for (int i = 0; i < due[net].length; i++) Due.is("13 way " + i + " of " + net, x.wayAt(net, i), due[net][i]);
            Due.is("13 behind", x.wayAt(net, due[net].length), NONE);
        }
    }

    private static void waysOfOneStepAndOfAll() {
        GuardNets x = Due.with("p", "a&b&c&d&e&f&g&h&i&j&k&l&m&n&o&p", "a|b|c|d|e|f|g|h|i|j|k|l|m|n|o|p");
        Rows.due("12", x, "ways 0 = 1", "wayAt 0 0 = 32768", "wayAt 0 1 = -1", "ways 1 = 1", "wayAt 1 0 = 65535", "wayAt 1 1 = -1",
            "ways 2 = 16", "wayAt 2 0 = 1", "wayAt 2 15 = 32768", "wayAt 2 16 = -1");
    }

    private static void waysInOrder() {
        GuardNets x = Due.with("p&o|a&b&c|n|b&p|a&o", "m&n&o&p|b");
        int[] due = {Due.set("n"), Due.set("ao"), Due.set("bp"), Due.set("op"), Due.set("abc")};
        for (int i = 0; i < 5; i++) Due.is("13 by how many, then as numbers " + i, x.wayAt(0, i), due[i]);
        Rows.due("13 the fewest first, though the greater number", x, "wayAt 1 0 = 2", "wayAt 1 1 = 61440");
    }

    private static void twoHundredAreNotAbove() {
        GuardNets x = Due.with(Houses.WAYS_200, "0&0", "a&0");
        x.patrol();
        Rows.due("12 200", x, "ways 0 = 200", "wayAt 0 0 = 2133", "wayAt 0 200 = -1", "wayAt 0 2147483647 = -1", "least 0 0 = 5",
            "leastWay 0 0 = 2133", "least 0 1 = 5", "may 0 0 0 = 200", "ask 0 0 0 = -1", "worst 0 0 0 = 5", "worst 0 0 1 = 0");
        Due.is("13 the last", x.wayAt(0, 199), Due.set("bdfkp"));
        Due.is("12 a knot within of 200", x.ways(1), 200);
        Due.is("12 a knot within of 200, though half of them are left", x.ways(2), 100);
    }

    private static void oneMoreIsSpent() {
        GuardNets x = Due.with(Houses.WAYS_201);
        x.patrol();
        String[] spent = {"ways 0", "wayAt 0 0", "wayAt 0 200", "wayAt 0 201", "wayAt 0 2147483647", "least 0 0", "least 0 1",
            "leastWay 0 0", "leastWay 0 1", "game 0", "worst 0 0 0", "worst 0 0 1", "may 0 0 0", "ask 0 0 0"};
        for (String row : spent) Rows.refused("12 201", x, row, SPENT);
    }

    private static void spentAtAKnotWithin() {
        GuardNets x = Due.with(Houses.WAYS_201, "0", "a&b&c&d&e&f&g&h&i&j&k&l&m&n&o&p&0", "[1a|b|c|d|e|f|g|h|i|j|k|l|m|n|o|p,0]");
        for (int net = 0; net < 4; net++) Due.is("12 spent", x.ways(net), SPENT);
        Rows.due("11 16 are not spent", x, "reaches 2 65535 = 1", "reaches 2 65534 = 0", "many 2 = 1", "many 3 = 1");
        x = Due.with(Houses.WAYS_201, "a|0");
        Due.put(x, 0, "c");
        Due.is("12 what a net stood for stays within", x.ways(1), SPENT);
        Due.is("12 but not here", x.ways(0), 1);
    }

    private static void spentByKnotsOfTheNetAlone() {
        GuardNets x = Due.with("a|b", Houses.WAYS_201, "0&c", "2|d");
        Rows.due("12", x, "ways 1 = -5", "ways 2 = 2", "ways 3 = 3", "ways 1 = -5", "ways 0 = 2", "clear = 33", "ways 1 = -3");
        Due.put(x, 1, "0|a");
        Due.is("12 the text is at fault", x.ways(1), NO);
        Due.put(x, 1, "a&b");
        Due.is("12 behind clear", x.ways(1), 1);
    }

    /** Above 200 SETS that are not least ones do no harm. */
    private static void spentBySets() {
        GuardNets x = Due.with("a&(b|c|d|e|f|g|h|i|j|k|l|m|n|o|p)", "[1a,b,c,d,e,f,g,h]", "[8a,b,c,d,e,f,g,h]", "[4a,b,c,d,e,f,g,h]",
            "[2 3,i|j|k|l]", "[1 3,i|j|k|l]");
        Rows.due("12", x, "ways 0 = 15", "ways 1 = 8", "ways 2 = 1", "ways 3 = 70", "ways 4 = -5", "ways 5 = 74");
    }

    /** NETS beside one that has too many SETS within: theirs alone count. */
    private static void spentPartsOfOthers() {
        GuardNets x = Due.with(Houses.WAYS_201, "0|a", "b|c", "[2 0,a,b]", "d", "4&2");
        Rows.due("12", x, "ways 0 = -5", "ways 1 = -5", "ways 2 = 2", "ways 3 = -5", "ways 4 = 1", "ways 5 = 2", "ways 1 = -5", "ways 5 = 2", "wayAt 5 0 = 10");
    }

    /** Some 60 rows, one in the other: what each KNOT is reached by is needed for a while alone. */
    private static void manyRowsInOneNet() {
        String[] texts = {"(0|a)&(b|c)", "[2 0,d|e,a&f]", "0&(g|h)|a&i", "(0>k|l)&(m|n)", "[1 0&o,(p|b)&c]"};
        PlainGuardNets plain = new PlainGuardNets();
        GuardNets x = new GuardNets();
        write(x, plain, "a");
        for (int i = 0; i < 20; i++) {
            write(x, plain, texts[i % texts.length]);
            String[] asked = {"ways 0", "wayAt 0 " + i, "size 0", "reaches 0 21845"};
            for (String row : asked) Rows.alike("12 of text " + i, x, plain, row);
        }
    }

    private static void write(GuardNets x, PlainGuardNets plain, String text) {
        Rows.alike("12", x, plain, "erase");
        for (int i = 0; i < text.length(); i++) Rows.alike("12", x, plain, "write " + (int) text.charAt(i));
        Rows.alike("12 " + text, x, plain, "make 0");
    }

    private static void wayAtItsEnds() {
        GuardNets x = Due.with("a|b&c|c&d");
        Rows.due("13", x, "wayAt 0 0 = 1", "wayAt 0 2 = 12", "wayAt 0 3 = -1", "wayAt 0 4 = -1", "wayAt 0 199 = -1", "wayAt 0 200 = -1",
            "wayAt 0 65536 = -1", "wayAt 0 2147483647 = -1", "wayAt 0 -1 = -2", "wayAt 0 -2147483648 = -2", "wayAt 9 -1 = -2", "wayAt 9 0 = -3",
            "wayAt 9 2147483647 = -3", "wayAt 10 0 = -2");
    }

    private static void sumsAtTheirEnds() {
        GuardNets x = Due.with("a&b&c&d&e&f&g&h&i&j&k&l&m&n&o&p", "p");
        Rows.due("14 as at first", x, "least 0 0 = 16", "least 0 1 = 16", "least 1 0 = 1", "least 1 1 = 1");
        for (int s = 0; s < 16; s++) x.step(s, 1000, 50, 500);
        Rows.due("14 the greatest", x, "least 0 0 = 16000", "least 0 1 = 800", "least 1 0 = 1000", "least 1 1 = 50", "leastWay 0 0 = 65535");
        for (int s = 0; s < 16; s++) x.step(s, 0, 1, 0);
        Rows.due("14 the least", x, "least 0 0 = 0", "least 0 1 = 16", "least 1 0 = 0", "leastWay 1 0 = 32768", "leastWay 0 1 = 65535");
    }

    private static void ofLikeOnesTheFirst() {
        GuardNets x = Due.with("a&b&c|d&e|f&g|p");
        x.step(15, 2, 2, 500);
        Rows.due("15 the one of fewer steps", x, "leastWay 0 0 = 32768", "leastWay 0 1 = 32768");
        x.step(15, 3, 3, 500);
        Rows.due("15 of as many the least number", x, "leastWay 0 0 = 24", "leastWay 0 1 = 24", "least 0 0 = 2");
        x.step(3, 2, 1, 500);
        Rows.due("15 price and time apart", x, "leastWay 0 0 = 96", "leastWay 0 1 = 24", "least 0 0 = 2", "least 0 1 = 2");
        x.step(5, 2, 2, 500);
        x.step(4, 1, 3, 500);
        Rows.due("15 three alike, of one, two and three steps", x, "leastWay 0 0 = 32768", "least 0 0 = 3", "leastWay 0 1 = 32768", "least 0 1 = 3");
        x.step(15, 0, 4, 500);
        Rows.due("15 the cheapest is not the soonest", x, "leastWay 0 0 = 32768", "leastWay 0 1 = 96");
    }

    private static void manyOfSome() {
        for (int need = 1; need <= 8; need++) {
            GuardNets x = Due.with("[" + need + "a,b,c,d,e,f,g,h]");
            for (int s = 0; s < 8; s++) x.step(s, 1, (s * 3 + 5) % 8 + 1, 500);
            Due.is("16 the " + need + ". of 1 to 8", x.many(0), need);
            for (int s = 0; s < 8; s++) x.step(s, 1, 50, 500);
            Due.is("16 all alike", x.many(0), 50);
        }
        GuardNets x = Due.with("[1p]", "[2a,a,b]");
        x.step(0, 1, 7, 500);
        Rows.due("16", x, "many 0 = 1", "many 1 = 7");
    }

    private static void manyOfRows() {
        GuardNets x = Due.with("a>b>c>d>e>f>g>h>i>j>k>l>m>n>o>p", "a&p", "a|p", "p", "a&b>c|p");
        for (int s = 0; s < 16; s++) x.step(s, 1, 50, 500);
        Rows.due("16", x, "many 0 = 800", "many 1 = 50", "many 2 = 50", "many 3 = 50", "many 4 = 50");
        x.step(15, 1, 1, 500);
        Rows.due("16", x, "many 0 = 751", "many 1 = 50", "many 2 = 1", "many 3 = 1", "many 4 = 1", "many 9 = -3", "many 10 = -2", "many -1 = -2");
    }

    /** NET 0 takes 2147483600 minutes and NET 1 as many as a. */
    private static GuardNets almostWrapped() {
        GuardNets x = Due.with("a", "a");
        x.step(0, 1, 50, 500);
        // 2147483600 is 50 times 42949672: by tens, then what is missing.
        int[] tens = {4, 2, 9, 4, 9, 6, 7, 2};
        Due.put(x, 0, Houses.rowOf(4, "1", '>'));
        for (int i = 1; i < 8; i++) {
            String text = Houses.rowOf(10, "0", '>') + ">" + Houses.rowOf(tens[i], "1", '>');
            Due.is("16 make " + text, Due.put(x, 0, text), 0);
        }
        Due.is("16 just below the greatest", x.many(0), 2147483600);
        return x;
    }

    private static void manyWraps() {
        GuardNets x = almostWrapped();
        Due.put(x, 2, "0>b");
        x.step(1, 1, 47, 500);
        Due.is("16 the greatest of all", x.many(2), MAX);
        x.step(1, 1, 48, 500);
        Due.is("16 one more wraps", x.many(2), MIN);
        Due.put(x, 3, "2|a");
        Due.put(x, 4, "2&a");
        Due.put(x, 5, "[1 2,a,b]");
        Due.put(x, 6, "[2 2,a,b]");
        Due.put(x, 7, "[3 2,a,b]");
        Rows.due("16 below 0 is the least", x, "many 3 = -2147483648", "many 4 = 50", "many 5 = -2147483648", "many 6 = 48", "many 7 = 50");
        x.step(1, 1, 47, 500);
        Rows.due("16 above it is the greatest", x, "many 3 = 50", "many 4 = 2147483647", "many 5 = 47", "many 6 = 50", "many 7 = 2147483647");
        Rows.due("14 sums do not wrap", x, "least 2 1 = 97", "ways 2 = 1");
    }

    private static void manyWrapsBackAbove() {
        GuardNets x = almostWrapped();
        Due.put(x, 2, "0>0");
        Due.is("16 twice", x.many(2), -96);
        Due.put(x, 3, "2>a");
        Due.put(x, 4, "3>a");
        Rows.due("16 and above 0 again", x, "many 3 = -46", "many 4 = 4");
        Due.put(x, 5, "2|3|4");
        Due.put(x, 6, "3&2");
        Due.put(x, 7, "[2 4,3,2]");
        Rows.due("16 numbers below 0 in their order", x, "many 5 = -96", "many 6 = -46", "many 7 = -46");
    }

    private static void whatIsRefused() {
        GuardNets x = Houses.spent();
        String[] names = {"ways N", "wayAt N 0", "least N 0", "leastWay N 1", "many N"};
        int[] bad = {-1, 10, MAX, MIN};
        for (String name : names) {
            for (int net : bad) Rows.refused("12 to 16", Houses.spent(), name.replace("N", "" + net), BAD);
            Rows.refused("12 to 16 not there", x, name.replace("N", "9"), NO);
        }
        Rows.refused("13 bad ahead of no", x, "wayAt 9 -1", BAD);
        Rows.refused("13 bad ahead of spent", x, "wayAt 0 -1", BAD);
        String[] least = {"least", "leastWay"};
        for (String name : least) {
            Rows.refused("14 15 bad ahead of no", x, name + " 9 2", BAD);
            Rows.refused("14 15 bad ahead of spent", x, name + " 0 -1", BAD);
        }
    }
}
