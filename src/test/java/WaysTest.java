/** Promises 12 to 16: ways. */
public final class WaysTest {
    static final String PAIRS = "(a|b)&(c|d)&(e|f)&(g|h)&(i|j)&(k|l)&(m|n)&(o|p)";
    private static final int MAX = Integer.MAX_VALUE, MIN = Integer.MIN_VALUE;
    private static final int NONE = GuardNets.NONE, BAD = GuardNets.BAD, NO = GuardNets.NO, SPENT = GuardNets.SPENT;

    public static void main(String[] args) {
        promise12();
        spent();
        promise13();
        promises14And15();
        promise16();
        refusals();
        Due.end();
    }

    private static void promise12() {
        String[] texts = {"a", "p|a", "a&(b|c)>d", "[2a,b,c]", "a|a&b", "[2a,a,b]", "[1a&b,a,c]", "[4a,b,c,d,e,f,g,h]",
            "(a|b)&(a|c)&(a|d)", "a>a>a", "[2a|b,a&c,b]"};
        int[] due = {1, 2, 2, 3, 1, 1, 2, 70, 2, 1, 2};
        for (int i = 0; i < texts.length; i++) Due.is("12 ways " + texts[i], Due.with(texts[i]).ways(0), due[i]);
        GuardNets x = Due.with("a>b>c>d>e>f>g>h>i>j>k>l>m>n>o>p", "p&(a|b&c&d&e&f&g&h&i&j&k&l&m&n&o)");
        Due.is("12 one of all steps", x.ways(0), 1);
        Due.is("13 all steps", x.wayAt(0, 0), 65535);
        Due.is("13 long ones behind", x.wayAt(1, 1), 65534);
        x = Due.with("a|b", "0&c", "1|0", "[2 0, 1, d]");
        int[] nets = {2, 2, 2, 4};
        for (int net = 0; net < 4; net++) Due.is("12 ways " + net, x.ways(net), nets[net]);
        for (int net = 3; net >= 0; net--) Due.is("12 ways again " + net, x.ways(net), nets[net]);
    }

    private static void spent() {
        String twoHundred = "(a|b)&(c|d)&(e|f)&(g|h|i|j|k)&(l|m|n|o|p)";
        String one = "(a|b|c)&((d|e|f|g)&(h|i|j|k)&(l|m|n|o)|[2d,e,f])";
        GuardNets x = Due.with(twoHundred, one, PAIRS);
        Due.is("12 just 200", x.ways(0), 200);
        Due.is("12 the last", Integer.bitCount(x.wayAt(0, 199)), 5);
        Due.is("12 behind the last", x.wayAt(0, 200), NONE);
        Due.is("12 one more", x.ways(1), SPENT);
        Due.is("12 256", x.ways(2), SPENT);
        allSpent(x, 2);
        x = Due.with(PAIRS, "a&0", "b|c");
        Due.is("12 a knot within", x.ways(1), SPENT);
        Due.is("12 another net", x.ways(2), 2);
        Due.put(x, 3, "a&b&c&d&e&f&g&h&i&j&k&l&m&n&o&p&0");
        Due.is("12 a knot within, though one way", x.ways(3), SPENT);
        x = Due.with("(a|b)&(c|d)&(e|f)&(g|h)&(i|j)&(k|l)&(m|n)&(o|p)&a&c&e&g&i&k&m&o");
        Due.is("12 one row is one knot", x.ways(0), 1);
        Due.is("12 its way", x.wayAt(0, 0), 0x5555);
    }

    private static void allSpent(GuardNets x, int net) {
        x.patrol();
        Due.is("13 spent", x.wayAt(net, 0), SPENT);
        Due.is("14 spent", x.least(net, 0), SPENT);
        Due.is("15 spent", x.leastWay(net, 1), SPENT);
        Due.is("16 never spent", x.many(net), 1);
        Due.is("30 spent", x.game(net), SPENT);
        Due.is("32 spent", x.worst(net, 0, 0), SPENT);
        Due.is("33 spent", x.may(net, 0, 0), SPENT);
        Due.is("34 spent", x.ask(net, 0, 0), SPENT);
        Due.is("18 not spent", x.chance(net), 1);
    }

    private static void promise13() {
        GuardNets x = Due.with("c|a&b|a&d|b&d&e", "h|a", "[2p,a,o]");
        int[] due = {4, 3, 9, 26};
        for (int i = 0; i < due.length; i++) Due.is("13 wayAt " + i, x.wayAt(0, i), due[i]);
        Due.is("13 behind", x.wayAt(0, 4), NONE);
        Due.is("13 far", x.wayAt(0, MAX), NONE);
        Due.is("13 by number", x.wayAt(1, 0), 1);
        Due.is("13 by number", x.wayAt(1, 1), 128);
        Due.is("13 high steps", x.wayAt(2, 2), 0xC000);
        Due.is("13 high steps", x.wayAt(2, 0), 0x4001);
        Due.is("13 below 0", x.wayAt(0, -1), BAD);
        Due.is("13 below 0, no net", x.wayAt(5, MIN), BAD);
        Due.is("13 no net", x.wayAt(5, 0), NO);
    }

    private static void promises14And15() {
        GuardNets x = Due.with("a&b|c|d&e&f");
        Due.is("14 of like ones the first", x.leastWay(0, 0), 4);
        x.step(2, 5, 7, 500);
        Due.is("14 price", x.least(0, 0), 2);
        Due.is("15 price", x.leastWay(0, 0), 3);
        Due.is("14 time", x.least(0, 1), 2);
        x.step(0, 2, 9, 500);
        Due.is("14 price", x.least(0, 0), 3);
        Due.is("15 two alike", x.leastWay(0, 0), 3);
        Due.is("14 time", x.least(0, 1), 3);
        Due.is("15 time", x.leastWay(0, 1), 56);
        x.step(1, 1000, 1, 500);
        x.step(2, 1000, 1, 500);
        for (int s = 3; s < 6; s++) x.step(s, 0, 50, 500);
        Due.is("14 no price", x.least(0, 0), 0);
        Due.is("15 no price", x.leastWay(0, 0), 56);
        Due.is("15 time", x.leastWay(0, 1), 4);
        Due.is("14 what", x.least(0, 2), BAD);
        Due.is("14 what", x.least(0, -1), BAD);
        Due.is("15 what", x.leastWay(5, 2), BAD);
        Due.is("15 what", x.leastWay(5, -1), BAD);
    }

    private static void promise16() {
        GuardNets x = Due.with("a|b", "a&b", "a>b", "[2a,b,c]", "a>a", "[3a,b,c]", "[1a,b,c]", "(a|b)&(b|c)>0", "c", "[2b,c,0,1]");
        x.step(0, 1, 3, 500);
        x.step(1, 1, 5, 500);
        x.step(2, 1, 2, 500);
        int[] due = {3, 5, 8, 3, 6, 5, 2, 6, 2, 3};
        for (int net = 0; net < 10; net++) Due.is("16 many " + net, x.many(net), due[net]);
    }

    private static void refusals() {
        GuardNets x = Due.with("a");
        int[] bad = {-1, 10, MAX, MIN};
        for (int net : bad) {
            Due.is("12 bad", x.ways(net), BAD);
            Due.is("13 bad", x.wayAt(net, 0), BAD);
            Due.is("14 bad", x.least(net, 0), BAD);
            Due.is("15 bad", x.leastWay(net, 0), BAD);
            Due.is("16 bad", x.many(net), BAD);
        }
        Due.is("12 no", x.ways(9), NO);
        Due.is("14 no", x.least(9, 1), NO);
        Due.is("15 no", x.leastWay(9, 1), NO);
        Due.is("16 no", x.many(9), NO);
    }
}
