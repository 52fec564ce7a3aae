import java.util.Arrays;
import java.util.List;
import java.util.Random;

/** Nets of many STEPS and KNOTS, held against PlainGuardNets, and the dearest runs of calls. */
public final class BigNetsTest {
    private final GuardNets x = new GuardNets();
    private final PlainGuardNets plain = new PlainGuardNets();
    private final Random random;

    private BigNetsTest(int seed) {
        random = new Random(seed);
    }

    public static void main(String[] args) {
        String[][] nets = {
            {ChancesTest.SIZE_400, "0&[3a,b,c,d,e]", "[2 0,1,p>o]"},
            {"(a|b)&(c|d)&(e|f)&(g|h|i|j|k)&(l|m|n|o|p)", "0|a&p", "1>b"},
            {"[4a,b,c,d,e,f,g,h]", "[2i,j,k,l]&0|m", "[5a,b,c,d,e,f,g,h]>1"},
            {WaysTest.PAIRS, "0&a&c&e&g&i&k&m&o", "a|p"},
            {"[3a|p,b|o,c|n,d|m,e|l,f|k]", "g&h|0", "[2 0,1,i,j]"},
            {"a>b>c>d>e>f>g>h>i>j>k>l>m>n>o>p", "[7a,b,c,d,e,f,g,h]", "0|1"},
            {"l&p|j&j|k&h&d|k&m|c&c&p|o&g|f&k|h&i|h&a|o&h&n|m&e|n&d|l&a|p&c|l&b|k&o&h", "a", "0&1"}};
        for (int i = 0; i < nets.length; i++) new BigNetsTest(i).play(nets[i]);
        for (int i = 0; i < 12; i++) new BigNetsTest(100 + i).playTwelve();
        new BigNetsTest(7).playDeep();
        Due.end();
    }

    private void due(String name, int... a) {
        long want = plain.call(name, a);
        Due.is(name + Arrays.toString(a) + " with \"" + plain.text + "\"", Calls.call(x, name, a), want);
        if (!Calls.putsFraction(name)) return;
        String got = Due.fraction(x);
        Due.is("the fraction behind " + name + Arrays.toString(a), got, plain.above + "/" + plain.below);
    }

    private void text(int net, String text) {
        due("erase");
        for (int i = 0; i < text.length(); i++) due("write", (int) text.charAt(i));
        due("make", net);
    }

    private void prepare() {
        for (int s = 0; s < 16; s++) {
            due("step", s, random.nextInt(30), 1 + random.nextInt(50), random.nextInt(1001));
            due("trace", s, random.nextInt(256) & random.nextInt(256), random.nextInt(8));
        }
        for (int g = 0; g < 3; g++) due("guard", random.nextInt(65536) & random.nextInt(65536), random.nextInt(20));
        for (int p = 0; p < 3; p++) {
            due("patrol");
            for (int s = 0; s < 16; s++) due("catches", p, s, random.nextInt(1001));
        }
        for (int i = 0; i < 3; i++) due("insider", random.nextInt(65536) & random.nextInt(65536));
    }

    private void play(String[] nets) {
        prepare();
        for (int net = 0; net < nets.length; net++) text(net, nets[net]);
        for (int net = nets.length - 1; net >= 0; net--) ask(net);
        for (int net = 0; net < nets.length; net++) {
            due("size", net);
            due("ways", net);
        }
        due("digest");
    }

    private void ask(int net) {
        for (String name : List.of("ways", "size", "chance", "many", "front", "leastGuards", "game")) due(name, net);
        for (int what = 0; what < 5; what++) due("knot", net, what);
        for (int what = 0; what < 2; what++) {
            due("least", net, what);
            due("leastWay", net, what);
            due("worst", net, 1, what);
            due("frontAt", net, 1, what);
        }
        for (int i = 0; i < 3; i++) due("wayAt", net, random.nextInt(40));
        due("weight", net, random.nextInt(16));
        due("may", net, 1, 4);
        due("ask", net, 1, 4);
        due("best", net, random.nextInt(200));
        for (int i = 0; i < 6; i++) due("reaches", net, random.nextInt(65536) | random.nextInt(65536));
    }

    /** As many STEPS as BEST can have. */
    private void playTwelve() {
        prepare();
        text(0, row("|", "&", 8, 0));
        text(1, row("&", "|", 6, 4) + "|0");
        text(2, "[2 0,1," + (char) ('a' + random.nextInt(12)) + "]");
        for (int net = 0; net < 3; net++) ask(net);
        for (int budget = 0; budget < 40; budget += 13) due("best", 2, budget);
    }

    private String row(String out, String in, int n, int from) {
        StringBuilder s = new StringBuilder();
        for (int i = 0; i < n; i++) {
            s.append(i > 0 ? out : "").append('(');
            for (int j = 0; j < 2 + random.nextInt(2); j++) s.append(j > 0 ? in : "").append((char) ('a' + from + random.nextInt(8)));
            s.append(')');
        }
        return s.toString();
    }

    /** 250 KNOTS of 40 parts each. */
    private void playDeep() {
        text(0, "a|b|c|d|e|f|g|h|i|j|k|l|m|n|o|p");
        StringBuilder row = new StringBuilder("0");
        for (int i = 1; i < 40; i++) row.append("|&>".charAt(i % 3)).append('0');
        text(1, row.toString());
        for (int n = 0; plain.knots.size() < 235 && n < 250; n++) due("make", n % 2);
        text(2, "0|0|0|0|0|0|0|0|0|0|0|0|0|0|0|0|0|0|0|0|0|0|0|0|0|0|0|0|0|0|0|0|0|0|0|0|0|0|0|0");
        for (int n = 0; n < 20; n++) due("make", n % 3);
        Due.is("knots", x.count(1), 250);
        due("event", 3, 5);
        for (String name : List.of("ways", "size", "chance", "many")) due(name, 2);
        due("reached", 2, 0);
        due("digest");
    }
}
