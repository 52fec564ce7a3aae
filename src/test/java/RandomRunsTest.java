import java.util.ArrayList;
import java.util.Arrays;
import java.util.List;
import java.util.Random;

/** Runs of calls, made by a fixed seed, held against PlainGuardNets call by call. */
public final class RandomRunsTest {
    private static final int[] EDGES = {-1, 16, 65535, 65536, Integer.MAX_VALUE, Integer.MIN_VALUE, 10, 12, 80, 255, 256, 600, 601, 1000, 1001, 10000, 10001, 16000, 16001};

    private final Random random;
    private final int run;
    private final int letters;
    private final GuardNets x = new GuardNets();
    private final PlainGuardNets plain = new PlainGuardNets();
    private final List<String> told = new ArrayList<>();
    private int calls = 0;
    private boolean wrong = false;

    private RandomRunsTest(int run) {
        this.run = run;
        random = new Random(977L * run + 5);
        letters = 2 + random.nextInt(run % 20 == 0 ? 9 : 5);
    }

    public static void main(String[] args) {
        int from = args.length > 0 ? Integer.parseInt(args[0]) : 0;
        int to = args.length > 1 ? Integer.parseInt(args[1]) : 1500;
        int wrong = 0;
        for (int run = from; run < to && wrong < 3; run++) {
            if (!new RandomRunsTest(run).play()) wrong++;
        }
        System.out.println("runs " + from + " to " + to + ": " + (wrong == 0 ? "all answers are as due" : "some answers are not as due"));
        if (wrong > 0) System.exit(1);
    }

    /** A TEXT, THE FRACTION and the digest at the end stay within the 512 calls that are promised. */
    private boolean play() {
        prepare();
        while (calls < 400 && !wrong) due(pick());
        due("digest");
        if (!wrong && !sameFraction()) tell("the fraction");
        return !wrong;
    }

    /** At first a house worth asking about. */
    private void prepare() {
        for (int i = 0; i < letters; i++) {
            if (random.nextBoolean()) due("step", i, random.nextInt(6), 1 + random.nextInt(5), random.nextInt(1001));
            if (random.nextBoolean()) due("trace", i, random.nextInt(256), random.nextInt(8));
        }
        for (int n = random.nextInt(3); n >= 0; n--) makeText();
    }

    private void due(Object... row) {
        String name = (String) row[0];
        int[] a = new int[row.length - 1];
        for (int i = 0; i < a.length; i++) a[i] = (Integer) row[i + 1];
        calls++;
        long got = Calls.call(x, name, a);
        long want = plain.call(name, a);
        String call = name + Arrays.toString(a);
        told.add(call + " " + want);
        if (got != want) tell(call + " answered " + got + ", due is " + want);
        else if (Calls.putsFraction(name) && !sameFraction()) tell("the fraction behind " + call);
    }

    private void tell(String what) {
        wrong = true;
        System.out.println("run " + run + ": " + what);
        System.out.println("  text \"" + plain.text + "\", the last calls " + told.subList(Math.max(0, told.size() - 60), told.size()));
    }

    private boolean sameFraction() {
        for (int part = 0; part < 2; part++) {
            List<Integer> limbs = PlainGuardNets.limbs(part == 0 ? plain.above : plain.below);
            calls += 1 + limbs.size();
            if (x.limbs(part) != limbs.size()) return false;
            for (int i = 0; i < limbs.size(); i++) if (x.limb(part, i) != limbs.get(i)) return false;
        }
        return true;
    }

    private void makeText() {
        due("erase");
        String text = random.nextInt(12) == 0 ? noise() : net(0);
        if (random.nextInt(10) == 0 && text.length() > 1) {
            int at = random.nextInt(text.length());
            text = text.substring(0, at) + sign() + text.substring(at + random.nextInt(2));
        }
        for (int i = 0; i < text.length() && i < 80; i++) due("write", (int) text.charAt(i));
        due("make", random.nextInt(10));
    }

    private String noise() {
        StringBuilder s = new StringBuilder();
        for (int n = random.nextInt(12); n > 0; n--) s.append(sign());
        return s.toString();
    }

    private char sign() {
        return "abcdefgpq0129 ()[],|>&".charAt(random.nextInt(22));
    }

    private String net(int deep) {
        return row(deep, "|", 2);
    }

    private String row(int deep, String signs, int more) {
        String next = signs.equals("|") ? ">" : signs.equals(">") ? "&" : "";
        StringBuilder s = new StringBuilder();
        int n = 1 + (random.nextInt(3) == 0 ? random.nextInt(more + 1) : 0);
        for (int i = 0; i < n; i++) {
            if (i > 0) s.append(signs);
            if (random.nextInt(9) == 0) s.append(' ');
            s.append(next.isEmpty() ? part(deep) : row(deep, next, more));
        }
        return s.toString();
    }

    private String part(int deep) {
        int sort = random.nextInt(10);
        if (deep < 3 && sort < 3) return "(" + net(deep + 1) + ")";
        if (deep < 2 && sort == 3) {
            StringBuilder s = new StringBuilder();
            int n = 1 + random.nextInt(4);
            s.append('[').append(1 + random.nextInt(n));
            for (int i = 0; i < n; i++) s.append(i > 0 ? "," : "").append(net(deep + 2));
            return s.append(']').toString();
        }
        if (sort == 4) {
            for (int net = 0; net < 10; net++) if (plain.nets[net] != null && random.nextBoolean()) return "" + net;
        }
        return "" + (char) ('a' + random.nextInt(letters));
    }

    private Object[] pick() {
        if (random.nextInt(40) == 0) makeText();
        String name = Calls.NAMES[random.nextInt(Calls.NAMES.length)];
        boolean rare = name.equals("clear") || name.equals("erase") || name.equals("rest");
        if (rare && random.nextInt(6) > 0) return new Object[] {"count", random.nextInt(7)};
        Object[] row = new Object[1 + Calls.arguments(name)];
        row[0] = name;
        for (int i = 1; i < row.length; i++) {
            row[i] = random.nextInt(60) == 0 ? EDGES[random.nextInt(EDGES.length)] : argument(name, i);
        }
        return row;
    }

    private int argument(String name, int i) {
        boolean first = i == 1;
        switch (name) {
            case "step":
                return first ? random.nextInt(letters) : i == 2 ? random.nextInt(9) : i == 3 ? 1 + random.nextInt(9) : random.nextInt(4) == 0 ? 500 * random.nextInt(3) : random.nextInt(1001);
            case "trace":
                return first ? random.nextInt(letters) : i == 2 ? random.nextInt(256) & random.nextInt(256) : random.nextInt(8);
            case "about": return first ? random.nextInt(16) : random.nextInt(5);
            case "write": return random.nextInt(128);
            case "part": return random.nextInt(first ? 20 : 4);
            case "guard": return first ? subset() : random.nextInt(6);
            case "holds": return first ? net() : random.nextInt(1 << plain.guards.size());
            case "catches": return first ? random.nextInt(6) : i == 2 ? random.nextInt(letters) : random.nextInt(1001);
            case "insider": return subset();
            case "event": return first ? random.nextInt(letters) : lastMinute() + random.nextInt(7) - 1;
            case "reached": return first ? net() : random.nextInt(plain.events.size() + 1);
            case "walk": return first ? random.nextInt(4) : random.nextInt(8);
            case "home": return random.nextInt(4);
            case "stands": return first ? random.nextInt(8) : random.nextInt(40);
            case "begins": return first ? random.nextInt(letters) : random.nextInt(3) == 0 ? 560 + random.nextInt(41) : random.nextInt(601);
            case "end": case "orderAt":
                return first ? random.nextInt(30) == 0 ? random.nextInt(65536) : subset() & (run % 9 == 0 ? 127 : 31) : i == 3 ? random.nextInt(6) : random.nextInt(3) == 0 ? 560 + random.nextInt(41) : random.nextInt(601);
            case "limbs": case "limb": return first ? random.nextInt(2) : random.nextInt(3);
            case "image": case "differ": case "from": return random.nextInt(2);
            case "count": return random.nextInt(7);
            default: return first ? net() : ofNet(name, i);
        }
    }

    private int ofNet(String name, int i) {
        switch (name) {
            case "knot": return random.nextInt(5);
            case "reaches": return subset();
            case "wayAt": return random.nextInt(8);
            case "least": case "leastWay": return random.nextInt(2);
            case "weight": return random.nextInt(letters + 1);
            case "best": return random.nextInt(30);
            case "frontAt": return i == 2 ? random.nextInt(5) : random.nextInt(2);
            case "worst": return i == 2 ? random.nextInt(plain.insiders.size() + 1) : random.nextInt(2);
            case "may": case "ask": return i == 2 ? (random.nextBoolean() ? 0 : 1 << random.nextInt(8)) : random.nextInt(256) & random.nextInt(256) & random.nextInt(256);
            default: return random.nextInt(4);
        }
    }

    private int net() {
        for (int tries = 0; tries < 20; tries++) {
            int net = random.nextInt(10);
            if (plain.nets[net] != null) return net;
        }
        return random.nextInt(10);
    }

    private int subset() {
        return random.nextInt(1 << letters);
    }

    private int lastMinute() {
        return plain.events.isEmpty() ? 0 : plain.events.get(plain.events.size() - 1)[1];
    }
}
