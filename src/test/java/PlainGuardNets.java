import java.math.BigInteger;
import java.util.ArrayList;
import java.util.Arrays;
import java.util.Comparator;
import java.util.List;
import java.util.TreeMap;

/**
 * The document told once more, as slowly and as near to its words as can be: what GuardNets answers is
 * held against it. It may use the Java library.
 */
final class PlainGuardNets {
    static final int NONE = -1, BAD = -2, NO = -3, FULL = -4, SPENT = -5;
    static final BigInteger THOUSAND = BigInteger.valueOf(1000);
    static final BigInteger BASE = BigInteger.valueOf(1073741824);

    /** A KNOT: sort 0 letter, 1 |, 2 >, 3 &, 4 [. */
    static final class Knot {
        int sort, step, some;
        List<Integer> parts = new ArrayList<>();
        // Worked once, as a KNOT stays what it is.
        List<Integer> leastSets;
        Integer size;
        byte[] known;
    }

    static final class Refused extends Exception {
        final int answer;

        Refused(int answer) {
            this.answer = answer;
        }
    }

    int[][] steps = new int[16][];
    int[][][] images = new int[2][][];
    StringBuilder text = new StringBuilder();
    List<Knot> knots = new ArrayList<>();
    Integer[] nets = new Integer[10];
    List<int[]> guards = new ArrayList<>();
    List<int[]> patrols = new ArrayList<>();
    List<Integer> insiders = new ArrayList<>();
    List<int[]> events = new ArrayList<>();
    List<List<Integer>> rounds = new ArrayList<>();
    BigInteger above = BigInteger.ZERO, below = BigInteger.ONE;

    PlainGuardNets() {
        for (int i = 0; i < 16; i++) steps[i] = new int[] {1, 1, 500, 0, 0};
        for (int i = 0; i < 4; i++) rounds.add(new ArrayList<>());
    }

    static boolean in(int v, int low, int high) {
        return low <= v && v <= high;
    }

    int root(int net) throws Refused {
        if (nets[net] == null) throw new Refused(NO);
        return nets[net];
    }

    static void ok(boolean fine) throws Refused {
        if (!fine) throw new Refused(BAD);
    }

    /** Any call by its name: so runs can be told as rows. */
    long call(String name, int... a) {
        try {
            return answer(name, a);
        } catch (Refused r) {
            return r.answer;
        }
    }

    private long answer(String name, int[] a) throws Refused {
        switch (name) {
            case "step":
                ok(in(a[0], 0, 15) && in(a[1], 0, 1000) && in(a[2], 1, 50) && in(a[3], 0, 1000));
                for (int i = 0; i < 3; i++) steps[a[0]][i] = a[i + 1];
                return 1;
            case "trace":
                ok(in(a[0], 0, 15) && in(a[1], 0, 255) && in(a[2], 0, 7));
                steps[a[0]][3] = a[1];
                steps[a[0]][4] = a[2];
                return 1;
            case "about":
                ok(in(a[0], 0, 15) && in(a[1], 0, 4));
                return steps[a[0]][a[1]];
            case "write":
                ok(in(a[0], 0, 127));
                if (text.length() == 80) return FULL;
                text.append((char) a[0]);
                return text.length();
            case "erase": {
                int n = text.length();
                text.setLength(0);
                return n;
            }
            case "make":
                ok(in(a[0], 0, 9));
                return make(a[0]);
            case "clear": {
                int n = knots.size();
                knots.clear();
                Arrays.fill(nets, null);
                return n;
            }
            case "knot": {
                ok(in(a[0], 0, 9) && in(a[1], 0, 4));
                int k = root(a[0]);
                Knot knot = knots.get(k);
                int[] all = {k, knot.sort, knot.sort == 0 ? knot.step : knot.parts.size(), knot.some, letters(k)};
                return all[a[1]];
            }
            case "part":
                ok(in(a[0], 0, knots.size() - 1) && a[1] >= 0);
                return a[1] < knots.get(a[0]).parts.size() ? knots.get(a[0]).parts.get(a[1]) : NONE;
            case "reaches":
                ok(in(a[0], 0, 9) && in(a[1], 0, 65535));
                return reaches(root(a[0]), a[1]) ? 1 : 0;
            default:
                return answerMore(name, a);
        }
    }

    private long answerMore(String name, int[] a) throws Refused {
        switch (name) {
            case "ways":
                ok(in(a[0], 0, 9));
                return ways(root(a[0])).size();
            case "wayAt": {
                ok(in(a[0], 0, 9) && a[1] >= 0);
                List<Integer> ways = ways(root(a[0]));
                return a[1] < ways.size() ? ways.get(a[1]) : NONE;
            }
            case "least":
                ok(in(a[0], 0, 9) && in(a[1], 0, 1));
                return sum(leastWay(root(a[0]), a[1]), a[1]);
            case "leastWay":
                ok(in(a[0], 0, 9) && in(a[1], 0, 1));
                return leastWay(root(a[0]), a[1]);
            case "many":
                ok(in(a[0], 0, 9));
                return many(root(a[0]));
            case "size":
                ok(in(a[0], 0, 9));
                return size(root(a[0]));
            case "chance":
                ok(in(a[0], 0, 9));
                chances(root(a[0]));
                put(chance(root(a[0]), 0, 0), letters(root(a[0])));
                return 1;
            case "weight": {
                ok(in(a[0], 0, 9) && in(a[1], 0, 15));
                int k = root(a[0]);
                chances(k);
                BigInteger w = chance(k, 1 << a[1], 0).subtract(chance(k, 0, 1 << a[1]));
                put(w, letters(k));
                return w.signum();
            }
            case "best": {
                ok(in(a[0], 0, 9) && in(a[1], 0, 16000));
                int k = root(a[0]);
                if (Integer.bitCount(letters(k)) > 12) return NO;
                chances(k);
                return best(k, a[1]);
            }
            case "limbs":
                ok(in(a[0], 0, 1));
                return limbs(a[0] == 0 ? above : below).size();
            case "limb": {
                ok(in(a[0], 0, 1) && a[1] >= 0);
                List<Integer> limbs = limbs(a[0] == 0 ? above : below);
                return a[1] < limbs.size() ? limbs.get(a[1]) : NONE;
            }
            default:
                return answerGuards(name, a);
        }
    }

    private long answerGuards(String name, int[] a) throws Refused {
        switch (name) {
            case "guard":
                ok(in(a[0], 0, 65535) && in(a[1], 0, 1000));
                if (guards.size() == 10) return FULL;
                guards.add(a.clone());
                return guards.size() - 1;
            case "holds":
                ok(in(a[0], 0, 9) && in(a[1], 0, (1 << guards.size()) - 1));
                return reaches(root(a[0]), 65535 & ~stops(a[1])) ? 0 : 1;
            case "leastGuards":
                ok(in(a[0], 0, 9));
                return leastGuards(root(a[0]));
            case "front":
                ok(in(a[0], 0, 9));
                chances(root(a[0]));
                return front(root(a[0])).size();
            case "frontAt": {
                ok(in(a[0], 0, 9) && a[1] >= 0 && in(a[2], 0, 1));
                int k = root(a[0]);
                chances(k);
                List<Integer> front = front(k);
                if (a[1] >= front.size()) return NONE;
                int set = front.get(a[1]);
                put(chance(k, 0, stops(set)), letters(k));
                return a[2] == 0 ? set : guardPrice(set);
            }
            case "patrol":
                if (patrols.size() == 6) return FULL;
                patrols.add(new int[16]);
                return patrols.size() - 1;
            case "catches": {
                ok(in(a[0], 0, patrols.size() - 1) && in(a[1], 0, 15) && in(a[2], 0, 1000));
                int was = patrols.get(a[0])[a[1]];
                patrols.get(a[0])[a[1]] = a[2];
                return was;
            }
            case "game":
                ok(in(a[0], 0, 9));
                return game(root(a[0]));
            case "insider":
                ok(in(a[0], 0, 65535));
                if (insiders.size() == 6) return FULL;
                insiders.add(a[0]);
                return insiders.size() - 1;
            case "worst":
                ok(in(a[0], 0, 9) && in(a[1], 0, insiders.size()) && in(a[2], 0, 1));
                return worst(root(a[0]), a[1], a[2]);
            case "may":
            case "ask":
                ok(in(a[0], 0, 9) && in(a[1], 0, 255) && in(a[2], 0, 255) && (a[1] & a[2]) == 0);
                return name.equals("may") ? may(root(a[0]), a[1], a[2]).size() : ask(root(a[0]), a[1], a[2]);
            default:
                return answerRest(name, a);
        }
    }

    private long answerRest(String name, int[] a) throws Refused {
        switch (name) {
            case "event":
                ok(in(a[0], 0, 15) && in(a[1], events.isEmpty() ? 0 : events.get(events.size() - 1)[1], 10000));
                if (events.size() == 40) return FULL;
                events.add(a.clone());
                return events.size();
            case "rest": {
                int n = events.size();
                events.clear();
                return n;
            }
            case "soon":
                for (int i = 0; i < events.size(); i++) {
                    int ahead = i == 0 ? 0 : events.get(i - 1)[1];
                    if (events.get(i)[1] - ahead < steps[events.get(i)[0]][1]) return i;
                }
                return NONE;
            case "reached": {
                ok(in(a[0], 0, 9) && in(a[1], 0, events.size()));
                Integer at = reached(root(a[0]), a[1]);
                return at == null ? NONE : at;
            }
            case "walk":
                ok(in(a[0], 0, 3) && in(a[1], 0, 7));
                if (rounds.get(a[0]).size() == 12) return FULL;
                rounds.get(a[0]).add(a[1]);
                return rounds.get(a[0]).size();
            case "home": {
                ok(in(a[0], 0, 3));
                int n = rounds.get(a[0]).size();
                rounds.get(a[0]).clear();
                return n;
            }
            case "stands":
                ok(in(a[0], 0, 7) && in(a[1], 0, 10000));
                return stands(a[0], a[1]);
            case "begins":
                ok(in(a[0], 0, 15) && in(a[1], 0, 600));
                return begins(a[0], a[1]);
            case "end":
            case "orderAt": {
                ok(in(a[0], 0, 65535) && in(a[1], 0, 600) && (a.length < 3 || a[2] >= 0));
                if (Integer.bitCount(a[0]) > 7) return NO;
                int[] best = bestOrder(a[0], a[1]);
                if (best == null) return NONE;
                if (a.length < 3) return best[best.length - 1];
                return a[2] < best.length - 1 ? best[a[2]] : NONE;
            }
            case "image":
                ok(in(a[0], 0, 1));
                images[a[0]] = copy(steps);
                return 1;
            case "differ": {
                ok(in(a[0], 0, 1));
                if (images[a[0]] == null) return NO;
                int set = 0;
                for (int i = 0; i < 16; i++) if (!Arrays.equals(steps[i], images[a[0]][i])) set |= 1 << i;
                return set;
            }
            case "from":
                ok(in(a[0], 0, 1));
                if (images[a[0]] == null) return NO;
                steps = copy(images[a[0]]);
                return 1;
            case "count":
                ok(in(a[0], 0, 6));
                return count(a[0]);
            case "digest":
                return digest();
            default:
                throw new IllegalStateException(name);
        }
    }

    static int[][] copy(int[][] from) {
        int[][] to = new int[from.length][];
        for (int i = 0; i < to.length; i++) to[i] = from[i].clone();
        return to;
    }

    // ---- texts

    private int make(int net) {
        int fault = fault();
        if (fault != 0) return fault;
        int had = knots.size();
        String bare = text.toString().replace(" ", "");
        int k = build(bare);
        if (knots.size() > 250) {
            while (knots.size() > had) knots.remove(knots.size() - 1);
            return 10 * text.length() + 6;
        }
        nets[net] = k;
        return 0;
    }

    /** Character by character, with a row of what stands open. */
    private int fault() {
        List<int[]> open = new ArrayList<>();
        boolean wantDigit = false, wantPart = true;
        for (int i = 0; i < text.length(); i++) {
            char c = text.charAt(i);
            int[] last = open.isEmpty() ? null : open.get(open.size() - 1);
            if (c == ' ') continue;
            if (wantDigit) {
                if (c < '0' || c > '9') return 10 * i + 1;
                last[1] = i;
                wantDigit = false;
            } else if (wantPart) {
                if (c >= 'a' && c <= 'p') {
                    wantPart = false;
                } else if (c >= '0' && c <= '9') {
                    if (nets[c - '0'] == null) return 10 * i + 3;
                    wantPart = false;
                } else if (c == '(' || c == '[') {
                    if (open.size() == 8) return 10 * i + 5;
                    open.add(new int[] {c, 0, 1});
                    wantDigit = c == '[';
                } else {
                    return 10 * i + 1;
                }
            } else if (c == '|' || c == '>' || c == '&') {
                wantPart = true;
            } else if (c == ')' && last != null && last[0] == '(') {
                open.remove(open.size() - 1);
            } else if (c == ',' && last != null && last[0] == '[') {
                if (last[2] == 8) return 10 * i + 7;
                last[2]++;
                wantPart = true;
            } else if (c == ']' && last != null && last[0] == '[') {
                int digit = text.charAt(last[1]) - '0';
                if (digit == 0 || digit > last[2]) return 10 * last[1] + 4;
                open.remove(open.size() - 1);
            } else {
                return 10 * i + 1;
            }
        }
        return wantPart || wantDigit || !open.isEmpty() ? 10 * text.length() + 2 : 0;
    }

    /** Splits at the loosest sign that is not inside brackets. */
    private int build(String s) {
        String signs = "|>&";
        for (int sign = 0; sign < 3; sign++) {
            List<String> pieces = split(s, signs.charAt(sign));
            if (pieces.size() > 1) return row(sign + 1, 0, pieces);
        }
        char c = s.charAt(0);
        if (c == '(') return build(s.substring(1, s.length() - 1));
        if (c == '[') return row(4, s.charAt(1) - '0', split(s.substring(2, s.length() - 1), ','));
        if (c <= '9') return nets[c - '0'];
        Knot letter = new Knot();
        letter.step = c - 'a';
        knots.add(letter);
        return knots.size() - 1;
    }

    private int row(int sort, int some, List<String> pieces) {
        Knot knot = new Knot();
        knot.sort = sort;
        knot.some = some;
        for (String piece : pieces) knot.parts.add(build(piece));
        knots.add(knot);
        return knots.size() - 1;
    }

    private static List<String> split(String s, char sign) {
        List<String> pieces = new ArrayList<>();
        int deep = 0, from = 0;
        for (int i = 0; i < s.length(); i++) {
            char c = s.charAt(i);
            if (c == '(' || c == '[') deep++;
            if (c == ')' || c == ']') deep--;
            if (c == sign && deep == 0) {
                pieces.add(s.substring(from, i));
                from = i + 1;
            }
        }
        pieces.add(s.substring(from));
        return pieces;
    }

    int letters(int k) {
        boolean[] in = inNet(k);
        int set = 0;
        for (int j = 0; j <= k; j++) if (in[j] && knots.get(j).sort == 0) set |= 1 << knots.get(j).step;
        return set;
    }

    private boolean[] inNet(int k) {
        boolean[] in = new boolean[knots.size()];
        in[k] = true;
        for (int j = k; j >= 0; j--) if (in[j]) for (int p : knots.get(j).parts) in[p] = true;
        return in;
    }

    boolean reaches(int k, int set) {
        Knot knot = knots.get(k);
        if (knot.known == null) knot.known = new byte[65536];
        if (knot.known[set] == 0) knot.known[set] = (byte) (reaches(k, set, new Boolean[k + 1]) ? 2 : 1);
        return knot.known[set] == 2;
    }

    private boolean reaches(int k, int set, Boolean[] known) {
        if (known[k] != null) return known[k];
        Knot knot = knots.get(k);
        int have = 0;
        for (int p : knot.parts) if (reaches(p, set, known)) have++;
        int all = knot.parts.size();
        boolean is = knot.sort == 0 ? (set >> knot.step & 1) == 1
            : knot.sort == 1 ? have > 0 : knot.sort == 4 ? have >= knot.some : have == all;
        known[k] = is;
        return is;
    }

    // ---- ways

    private static List<Integer> subsets(int set) {
        List<Integer> all = new ArrayList<>();
        for (int s = set; ; s = s - 1 & set) {
            all.add(s);
            if (s == 0) break;
        }
        all.sort(null);
        return all;
    }

    private List<Integer> leastSets(int k) {
        Knot knot = knots.get(k);
        if (knot.leastSets != null) return knot.leastSets;
        List<Integer> least = new ArrayList<>();
        for (int set : subsets(letters(k))) {
            boolean is = reaches(k, set);
            for (int i = 0; i < 16 && is; i++) if ((set >> i & 1) == 1 && reaches(k, set ^ 1 << i)) is = false;
            if (is) least.add(set);
        }
        least.sort(Comparator.comparingInt((Integer s) -> Integer.bitCount(s)).thenComparingInt(s -> s));
        knot.leastSets = least;
        return least;
    }

    private List<Integer> ways(int k) throws Refused {
        boolean[] in = inNet(k);
        for (int j = 0; j <= k; j++) if (in[j] && leastSets(j).size() > 200) throw new Refused(SPENT);
        return leastSets(k);
    }

    private int sum(int set, int what) {
        int sum = 0;
        for (int i = 0; i < 16; i++) if ((set >> i & 1) == 1) sum += steps[i][what];
        return sum;
    }

    private int leastWay(int k, int what) throws Refused {
        int best = -1;
        for (int way : ways(k)) if (best < 0 || sum(way, what) < sum(best, what)) best = way;
        return best;
    }

    private int many(int k) {
        int[] time = new int[k + 1];
        for (int j = 0; j <= k; j++) {
            Knot knot = knots.get(j);
            if (knot.sort == 0) {
                time[j] = steps[knot.step][1];
                continue;
            }
            List<Integer> times = new ArrayList<>();
            int total = 0;
            for (int p : knot.parts) {
                times.add(time[p]);
                total += time[p];
            }
            times.sort(null);
            time[j] = knot.sort == 1 ? times.get(0) : knot.sort == 2 ? total
                : knot.sort == 3 ? times.get(times.size() - 1) : times.get(knot.some - 1);
        }
        return time[k];
    }

    // ---- diagrams, chances

    private int size(int k) {
        if (knots.get(k).size != null) return knots.get(k).size;
        int size = 0;
        int letters = letters(k);
        for (int i = 0; i < 16; i++) {
            if ((letters >> i & 1) == 0) continue;
            int low = letters & (1 << i) - 1;
            int rest = letters >> i << i;
            TreeMap<String, Boolean> told = new TreeMap<>();
            for (int below : subsets(low)) {
                StringBuilder telling = new StringBuilder();
                boolean hangs = false;
                for (int on : subsets(rest)) {
                    boolean is = reaches(k, below | on);
                    telling.append(is ? '1' : '0');
                    if (is != reaches(k, below | on ^ 1 << i)) hangs = true;
                }
                if (hangs) told.put(telling.toString(), true);
            }
            size += told.size();
        }
        knots.get(k).size = size;
        return size;
    }

    private void chances(int k) throws Refused {
        if (size(k) > 400) throw new Refused(SPENT);
    }

    /** By 1000 to the power of how many letters. */
    private BigInteger chance(int k, int sure, int never) {
        BigInteger total = BigInteger.ZERO;
        int letters = letters(k);
        for (int set : subsets(letters & ~never)) {
            if (!reaches(k, set)) continue;
            BigInteger one = BigInteger.ONE;
            for (int i = 0; i < 16; i++) {
                if ((letters >> i & 1) == 0) continue;
                int odds = (sure >> i & 1) == 1 ? 1000 : (never >> i & 1) == 1 ? 0 : steps[i][2];
                one = one.multiply(BigInteger.valueOf((set >> i & 1) == 1 ? odds : 1000 - odds));
            }
            total = total.add(one);
        }
        return total;
    }

    private void put(BigInteger up, int letters) {
        put(up, THOUSAND.pow(Integer.bitCount(letters)));
    }

    private void put(BigInteger up, BigInteger down) {
        BigInteger common = up.gcd(down);
        above = up.divide(common);
        below = down.divide(common);
    }

    private int best(int k, int budget) {
        int best = -1;
        BigInteger most = null;
        for (int set : subsets(letters(k))) {
            if (sum(set, 0) > budget) continue;
            BigInteger chance = chance(k, 0, 65535 & ~set);
            int sign = best < 0 ? 1 : chance.compareTo(most);
            if (sign > 0 || sign == 0 && sum(set, 0) < sum(best, 0)) {
                best = set;
                most = chance;
            }
        }
        put(most, letters(k));
        return best;
    }

    static List<Integer> limbs(BigInteger v) {
        List<Integer> limbs = new ArrayList<>();
        while (v.signum() > 0) {
            limbs.add(v.mod(BASE).intValue());
            v = v.divide(BASE);
        }
        return limbs;
    }

    // ---- guards, patrols, insiders

    private int stops(int set) {
        int stops = 0;
        for (int g = 0; g < guards.size(); g++) if ((set >> g & 1) == 1) stops |= guards.get(g)[0];
        return stops;
    }

    private int guardPrice(int set) {
        int price = 0;
        for (int g = 0; g < guards.size(); g++) if ((set >> g & 1) == 1) price += guards.get(g)[1];
        return price;
    }

    private int leastGuards(int k) {
        List<Integer> holding = new ArrayList<>();
        for (int set = 0; set < 1 << guards.size(); set++) {
            if (!reaches(k, 65535 & ~stops(set))) holding.add(set);
        }
        holding.sort(Comparator.comparingInt((Integer s) -> guardPrice(s))
            .thenComparingInt(s -> Integer.bitCount(s)).thenComparingInt(s -> s));
        return holding.isEmpty() ? NONE : holding.get(0);
    }

    private List<Integer> front(int k) {
        int sets = 1 << guards.size();
        BigInteger[] chance = new BigInteger[sets];
        TreeMap<Integer, BigInteger> known = new TreeMap<>();
        for (int s = 0; s < sets; s++) {
            int never = stops(s) & letters(k);
            if (!known.containsKey(never)) known.put(never, chance(k, 0, never));
            chance[s] = known.get(never);
        }
        List<Integer> front = new ArrayList<>();
        for (int s = 0; s < sets; s++) {
            boolean in = true;
            for (int o = 0; o < sets && in; o++) {
                int price = Integer.compare(guardPrice(o), guardPrice(s));
                int odds = chance[o].compareTo(chance[s]);
                if (price <= 0 && odds <= 0 && (price < 0 || odds < 0)) in = false;
                if (price == 0 && odds == 0 && o < s) in = false;
            }
            if (in) front.add(s);
        }
        front.sort(Comparator.comparingInt(this::guardPrice));
        return front;
    }

    private int game(int k) throws Refused {
        if (patrols.isEmpty()) return NO;
        List<Integer> ways = ways(k);
        if (ways.size() > 24) return SPENT;
        long[][] table = new long[patrols.size()][ways.size()];
        for (int i = 0; i < table.length; i++) {
            for (int j = 0; j < ways.size(); j++) {
                for (int s = 0; s < 16; s++) {
                    if ((ways.get(j) >> s & 1) == 1) table[i][j] = Math.max(table[i][j], patrols.get(i)[s]);
                }
            }
        }
        Ratio value = PlainGame.value(table);
        put(value.up, value.down);
        return 1;
    }

    private int worst(int k, int many, int what) throws Refused {
        List<Integer> ways = ways(k);
        int best = -1, least = Integer.MAX_VALUE;
        for (int set = 0; set < 1 << insiders.size(); set++) {
            if (Integer.bitCount(set) != many) continue;
            int free = 0;
            for (int i = 0; i < insiders.size(); i++) if ((set >> i & 1) == 1) free |= insiders.get(i);
            for (int way : ways) {
                if (sum(way & ~free, 0) < least) {
                    least = sum(way & ~free, 0);
                    best = set;
                }
            }
        }
        return what == 0 ? least : best;
    }

    // ---- marks, drills, watchmen

    private List<Integer> may(int k, int seen, int missed) throws Refused {
        List<Integer> left = new ArrayList<>();
        for (int way : ways(k)) {
            int marks = 0;
            for (int s = 0; s < 16; s++) if ((way >> s & 1) == 1) marks |= steps[s][3];
            if ((marks & seen) == seen && (marks & missed) == 0) left.add(marks);
        }
        return left;
    }

    private int ask(int k, int seen, int missed) throws Refused {
        List<Integer> left = may(k, seen, missed);
        int best = NONE, least = Integer.MAX_VALUE;
        for (int mark = 0; mark < 8; mark++) {
            if (((seen | missed) >> mark & 1) == 1) continue;
            int with = 0, without = 0;
            for (int marks : left) {
                if ((marks >> mark & 1) == 1) with++;
                else without++;
            }
            if (with == 0 || without == 0) continue;
            if (Math.max(with, without) < least) {
                least = Math.max(with, without);
                best = mark;
            }
        }
        return best;
    }

    private Integer reached(int k, int from) {
        return reached(k, from, new Integer[k + 1][events.size() + 1], new boolean[k + 1][events.size() + 1]);
    }

    private Integer reached(int k, int from, Integer[][] found, boolean[][] known) {
        if (known[k][from]) return found[k][from];
        Knot knot = knots.get(k);
        Integer at = null;
        if (knot.sort == 0) {
            for (int i = events.size() - 1; i >= from; i--) if (events.get(i)[0] == knot.step) at = i;
        } else if (knot.sort == 2) {
            int next = from;
            for (int p : knot.parts) {
                at = reached(p, next, found, known);
                if (at == null) break;
                next = at + 1;
            }
        } else {
            List<Integer> all = new ArrayList<>();
            for (int p : knot.parts) {
                Integer one = reached(p, from, found, known);
                if (one != null) all.add(one);
            }
            all.sort(null);
            int need = knot.sort == 1 ? 1 : knot.sort == 3 ? knot.parts.size() : knot.some;
            if (all.size() >= need) at = all.get(need - 1);
        }
        known[k][from] = true;
        found[k][from] = at;
        return at;
    }

    private int stands(int place, int minute) {
        int n = 0;
        for (List<Integer> round : rounds) {
            if (!round.isEmpty() && round.get(minute % round.size()) == place) n++;
        }
        return n;
    }

    private int begins(int step, int minute) {
        for (int b = minute; b + steps[step][1] <= 600; b++) {
            boolean free = true;
            for (int t = b; t < b + steps[step][1] && free; t++) free = stands(steps[step][4], t) == 0;
            if (free) return b;
        }
        return NONE;
    }

    /** The STEPS of the best ORDER, and THE END behind them; null if none. */
    private int[] bestOrder(int set, int minute) {
        List<Integer> left = new ArrayList<>();
        for (int i = 0; i < 16; i++) if ((set >> i & 1) == 1) left.add(i);
        int[][] best = new int[1][];
        Integer[][] begin = new Integer[16][601];
        tryOrders(left, new ArrayList<>(), minute, best, begin);
        return best[0];
    }

    private void tryOrders(List<Integer> left, List<Integer> done, int now, int[][] best, Integer[][] begin) {
        if (left.isEmpty()) {
            if (best[0] == null || now < best[0][done.size()]) {
                best[0] = new int[done.size() + 1];
                for (int i = 0; i < done.size(); i++) best[0][i] = done.get(i);
                best[0][done.size()] = now;
            }
            return;
        }
        for (int i = 0; i < left.size(); i++) {
            int step = left.get(i);
            if (begin[step][now] == null) begin[step][now] = begins(step, now);
            if (begin[step][now] < 0) continue;
            List<Integer> rest = new ArrayList<>(left);
            rest.remove(i);
            done.add(step);
            tryOrders(rest, done, begin[step][now] + steps[step][1], best, begin);
            done.remove(done.size() - 1);
        }
    }

    private int count(int what) {
        int there = 0;
        for (Integer net : nets) if (net != null) there++;
        int[] all = {text.length(), knots.size(), there, guards.size(), patrols.size(), insiders.size(), events.size()};
        return all[what];
    }

    private long digest() {
        List<Integer> v = new ArrayList<>();
        for (int what = 0; what <= 6; what++) v.add(count(what));
        for (int[] step : steps) for (int n : step) v.add(n);
        for (int i = 0; i < text.length(); i++) v.add((int) text.charAt(i));
        for (int i = 0; i < 10; i++) {
            if (nets[i] != null) {
                v.add(i);
                v.add(nets[i]);
            }
        }
        for (Knot knot : knots) {
            v.add(knot.sort);
            v.add(knot.sort == 0 ? knot.step : knot.parts.size());
            v.add(knot.some);
            v.addAll(knot.parts);
        }
        for (int[] guard : guards) for (int n : guard) v.add(n);
        for (int[] patrol : patrols) for (int n : patrol) v.add(n);
        v.addAll(insiders);
        for (int[] event : events) for (int n : event) v.add(n);
        for (List<Integer> round : rounds) {
            v.add(round.size());
            v.addAll(round);
        }
        long h = 269;
        for (int n : v) h = 31 * h + n;
        return h;
    }
}
