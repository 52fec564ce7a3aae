import java.util.Arrays;

/** Break-in and guard: a house told by STEPS, the NETS of ways into it, and what stands against them. */
public final class GuardNets {
    public static final int NONE = -1, BAD = -2, NO = -3, FULL = -4, SPENT = -5;

    private static final int STEPS = 16, ALL_STEPS = 65535, ALL_MARKS = 255;
    private static final int LAST_NET = 9, MOST_PRICE = 1000, MOST_TIME = 50, THOUSAND = 1000;
    private static final int LAST_PLACE = 7, LAST_MINUTE = 10000, MOST_END = 600;
    private static final int MOST_BUDGET = 16000, MOST_BEST = 12, LAST_MAN = 3, MOST_ORDER = 7;

    private final House house;
    private final Nets nets;
    private final Reader reader;
    private final Tables tables;
    private final Ways wayList;
    private final Fraction fraction;
    private final Diagram diagram;
    private final Guards guards;
    private final Game patrols;
    private final Drill drill;
    private final Watch watch;

    public GuardNets() {
        house = new House();
        nets = new Nets();
        reader = new Reader(nets);
        tables = new Tables(nets);
        wayList = new Ways(house, tables);
        fraction = new Fraction();
        diagram = new Diagram(house, tables);
        guards = new Guards(tables, diagram);
        patrols = new Game(wayList);
        drill = new Drill(house, nets);
        watch = new Watch(house);
    }

    // ---- steps, texts, nets

    public int step(int step, int price, int time, int chance) {
        if (noStep(step) || outside(price, 0, MOST_PRICE)) return BAD;
        if (outside(time, 1, MOST_TIME) || outside(chance, 0, THOUSAND)) return BAD;
        house.put(step, House.PRICE, price);
        house.put(step, House.TIME, time);
        house.put(step, House.CHANCE, chance);
        guards.forgetFront();
        return 1;
    }

    public int trace(int step, int marks, int place) {
        if (noStep(step) || outside(marks, 0, ALL_MARKS) || outside(place, 0, LAST_PLACE)) return BAD;
        house.put(step, House.MARKS, marks);
        house.put(step, House.PLACE, place);
        return 1;
    }

    public int about(int step, int what) {
        if (noStep(step) || outside(what, 0, House.NUMBERS - 1)) return BAD;
        return house.get(step, what);
    }

    public int write(int character) {
        if (outside(character, 0, 127)) return BAD;
        return nets.append(character) ? nets.length : FULL;
    }

    public int erase() {
        int had = nets.length;
        nets.length = 0;
        return had;
    }

    public int make(int net) {
        if (noNet(net)) return BAD;
        int root = reader.readText();
        if (reader.fault != 0) return reader.fault;
        nets.roots[net] = root;
        return 0;
    }

    public int clear() {
        int had = nets.knots;
        nets.forget();
        tables.forget();
        wayList.forget();
        diagram.forget();
        guards.forgetFront();
        return had;
    }

    public int knot(int net, int what) {
        if (noNet(net) || outside(what, 0, 4)) return BAD;
        int root = nets.roots[net];
        if (root < 0) return NO;
        switch (what) {
            case 0: return root;
            case 1: return nets.sorts[root];
            case 2: return nets.sizes[root];
            case 3: return nets.needs[root];
            default: return nets.letters[root];
        }
    }

    public int part(int k, int i) {
        if (outside(k, 0, nets.knots - 1) || i < 0) return BAD;
        if (nets.sorts[k] == Nets.LETTER || i >= nets.sizes[k]) return NONE;
        return nets.partOf(k, i);
    }

    public int reaches(int net, int set) {
        if (noNet(net) || outside(set, 0, ALL_STEPS)) return BAD;
        int root = nets.roots[net];
        if (root < 0) return NO;
        return nets.isReachedBy(root, set) ? 1 : 0;
    }

    // ---- ways

    public int ways(int net) {
        if (noNet(net)) return BAD;
        int root = nets.roots[net];
        if (root < 0) return NO;
        return wayList.listAll(root) ? wayList.total : SPENT;
    }

    public int wayAt(int net, int i) {
        if (noNet(net) || i < 0) return BAD;
        int root = nets.roots[net];
        if (root < 0) return NO;
        if (!wayList.listAll(root)) return SPENT;
        return i < wayList.total ? wayList.list[i] : NONE;
    }

    public int least(int net, int what) {
        int way = leastWay(net, what);
        return way < 0 ? way : house.sumOf(way, what);
    }

    public int leastWay(int net, int what) {
        if (noNet(net) || outside(what, House.PRICE, House.TIME)) return BAD;
        int root = nets.roots[net];
        if (root < 0) return NO;
        return wayList.listAll(root) ? wayList.firstLeast(what) : SPENT;
    }

    public int many(int net) {
        if (noNet(net)) return BAD;
        int root = nets.roots[net];
        return root < 0 ? NO : nets.timeByMany(root, house);
    }

    // ---- diagrams, chances

    public int size(int net) {
        if (noNet(net)) return BAD;
        int root = nets.roots[net];
        if (root < 0) return NO;
        diagram.draw(root);
        return diagram.drawnSize();
    }

    public int chance(int net) {
        if (noNet(net)) return BAD;
        int root = nets.roots[net];
        if (root < 0) return NO;
        if (!diagram.mayWork(root)) return SPENT;
        diagram.takeOdds(0);
        int at = diagram.work();
        fraction.putThousandths(diagram.nums, at, diagram.limbs, tables.steps);
        return 1;
    }

    public int weight(int net, int step) {
        if (noNet(net) || noStep(step)) return BAD;
        int root = nets.roots[net];
        if (root < 0) return NO;
        if (!diagram.mayWork(root)) return SPENT;
        diagram.workWeight(step);
        fraction.putThousandths(diagram.spare, 0, diagram.limbs, tables.steps);
        return fraction.isZero() ? 0 : 1;
    }

    public int best(int net, int budget) {
        if (noNet(net) || outside(budget, 0, MOST_BUDGET)) return BAD;
        int root = nets.roots[net];
        if (root < 0 || Integer.bitCount(nets.letters[root]) > MOST_BEST) return NO;
        if (!diagram.mayWork(root)) return SPENT;
        int set = diagram.bestSet(budget);
        fraction.putThousandths(diagram.nums, set * diagram.limbs, diagram.limbs, tables.steps);
        return tables.widened(set);
    }

    public int limbs(int part) {
        if (outside(part, 0, 1)) return BAD;
        return fraction.limbsOf(part);
    }

    public int limb(int part, int i) {
        if (outside(part, 0, 1) || i < 0) return BAD;
        return i < fraction.limbsOf(part) ? fraction.limbOf(part, i) : NONE;
    }

    // ---- guards, patrols, insiders

    public int guard(int steps, int price) {
        if (outside(steps, 0, ALL_STEPS) || outside(price, 0, MOST_PRICE)) return BAD;
        return guards.hire(steps, price) ? guards.total - 1 : FULL;
    }

    public int holds(int net, int guards) {
        if (noNet(net) || outside(guards, 0, (1 << this.guards.total) - 1)) return BAD;
        int root = nets.roots[net];
        if (root < 0) return NO;
        return nets.isReachedBy(root, ALL_STEPS & ~this.guards.stops[guards]) ? 0 : 1;
    }

    public int leastGuards(int net) {
        if (noNet(net)) return BAD;
        int root = nets.roots[net];
        return root < 0 ? NO : guards.leastHolding(root);
    }

    public int front(int net) {
        if (noNet(net)) return BAD;
        int root = nets.roots[net];
        if (root < 0) return NO;
        return guards.drawFront(root) ? guards.fronts : SPENT;
    }

    public int frontAt(int net, int i, int what) {
        if (noNet(net) || i < 0 || outside(what, 0, 1)) return BAD;
        int root = nets.roots[net];
        if (root < 0) return NO;
        if (!guards.drawFront(root)) return SPENT;
        if (i >= guards.fronts) return NONE;
        int set = guards.frontSets[i];
        int limbs = guards.frontLimbs;
        fraction.putThousandths(guards.chances, set * limbs, limbs, guards.frontSteps);
        return what == 0 ? set : guards.prices[set];
    }

    public int patrol() {
        return patrols.hire() ? patrols.total - 1 : FULL;
    }

    public int catches(int patrol, int step, int v) {
        if (outside(patrol, 0, patrols.total - 1) || noStep(step) || outside(v, 0, THOUSAND)) return BAD;
        int was = patrols.catchOf(patrol, step);
        patrols.putCatch(patrol, step, v);
        return was;
    }

    public int game(int net) {
        if (noNet(net)) return BAD;
        int root = nets.roots[net];
        if (root < 0 || patrols.total == 0) return NO;
        if (!wayList.listAll(root) || wayList.total > Game.MOST_WAYS) return SPENT;
        patrols.play();
        fraction.putRatio(patrols.above, patrols.below);
        return 1;
    }

    public int insider(int steps) {
        if (outside(steps, 0, ALL_STEPS)) return BAD;
        return wayList.bribe(steps) ? wayList.insiders - 1 : FULL;
    }

    public int worst(int net, int k, int what) {
        if (noNet(net) || outside(k, 0, wayList.insiders) || outside(what, 0, 1)) return BAD;
        int root = nets.roots[net];
        if (root < 0) return NO;
        if (!wayList.listAll(root)) return SPENT;
        int set = wayList.worstSet(k);
        return what == 0 ? wayList.leastPriceWith(wayList.givenBy(set)) : set;
    }

    // ---- marks, drills, watchmen

    public int may(int net, int seen, int missed) {
        if (noNet(net) || noMarks(seen, missed)) return BAD;
        int root = nets.roots[net];
        if (root < 0) return NO;
        return wayList.listAll(root) ? wayList.sift(seen, missed) : SPENT;
    }

    public int ask(int net, int seen, int missed) {
        if (noNet(net) || noMarks(seen, missed)) return BAD;
        int root = nets.roots[net];
        if (root < 0) return NO;
        return wayList.listAll(root) ? wayList.markToAsk(seen, missed) : SPENT;
    }

    public int event(int step, int minute) {
        if (noStep(step) || outside(minute, drill.lastMinute(), LAST_MINUTE)) return BAD;
        return drill.append(step, minute) ? drill.total : FULL;
    }

    public int rest() {
        int had = drill.total;
        drill.total = 0;
        return had;
    }

    public int soon() {
        return drill.firstTooSoon();
    }

    public int reached(int net, int p) {
        if (noNet(net) || outside(p, 0, drill.total)) return BAD;
        int root = nets.roots[net];
        return root < 0 ? NO : drill.eventReaching(root, p);
    }

    public int walk(int man, int place) {
        if (outside(man, 0, LAST_MAN) || outside(place, 0, LAST_PLACE)) return BAD;
        return watch.addPlace(man, place) ? watch.lengths[man] : FULL;
    }

    public int home(int man) {
        if (outside(man, 0, LAST_MAN)) return BAD;
        int had = watch.lengths[man];
        watch.lengths[man] = 0;
        return had;
    }

    public int stands(int place, int minute) {
        if (outside(place, 0, LAST_PLACE) || outside(minute, 0, LAST_MINUTE)) return BAD;
        return watch.menAt(place, minute);
    }

    public int begins(int step, int minute) {
        if (noStep(step) || outside(minute, 0, MOST_END)) return BAD;
        return watch.firstBegin(step, minute);
    }

    public int end(int set, int minute) {
        if (outside(set, 0, ALL_STEPS) || outside(minute, 0, MOST_END)) return BAD;
        if (Integer.bitCount(set) > MOST_ORDER) return NO;
        return watch.bestEnd(set, minute);
    }

    public int orderAt(int set, int minute, int i) {
        if (outside(set, 0, ALL_STEPS) || outside(minute, 0, MOST_END) || i < 0) return BAD;
        if (Integer.bitCount(set) > MOST_ORDER) return NO;
        return watch.stepInOrder(set, minute, i);
    }

    public int image(int i) {
        if (outside(i, 0, 1)) return BAD;
        house.keep(i);
        return 1;
    }

    public int differ(int i) {
        if (outside(i, 0, 1)) return BAD;
        return house.kept[i] ? house.changed(i) : NO;
    }

    public int from(int i) {
        if (outside(i, 0, 1)) return BAD;
        if (!house.kept[i]) return NO;
        house.restore(i);
        guards.forgetFront();
        return 1;
    }

    public int count(int what) {
        switch (what) {
            case 0: return nets.length;
            case 1: return nets.knots;
            case 2: return nets.standing();
            case 3: return guards.total;
            case 4: return patrols.total;
            case 5: return wayList.insiders;
            case 6: return drill.total;
            default: return BAD;
        }
    }

    public long digest() {
        long h = 269;
        for (int what = 0; what <= 6; what++) h = 31 * h + count(what);
        h = house.mixInto(h);
        h = nets.mixInto(h);
        h = guards.mixInto(h);
        h = patrols.mixInto(h);
        h = wayList.mixInto(h);
        h = drill.mixInto(h);
        return watch.mixInto(h);
    }

    private static boolean outside(int value, int low, int high) {
        return value < low || value > high;
    }

    private static boolean noStep(int step) {
        return outside(step, 0, STEPS - 1);
    }

    private static boolean noNet(int net) {
        return outside(net, 0, LAST_NET);
    }

    private static boolean noMarks(int seen, int missed) {
        return outside(seen, 0, ALL_MARKS) || outside(missed, 0, ALL_MARKS) || (seen & missed) != 0;
    }

    /** The five numbers of each STEP, and two IMAGES of them all. */
    private static final class House {
        static final int PRICE = 0, TIME = 1, CHANCE = 2, MARKS = 3, PLACE = 4, NUMBERS = 5;
        // No sum of PRICES comes there, and none of TIMES.
        static final int ABOVE_SUMS = STEPS * MOST_PRICE + 1;

        final int[] now = new int[STEPS * NUMBERS];
        final int[][] images = new int[2][STEPS * NUMBERS];
        final boolean[] kept = new boolean[2];

        House() {
            for (int step = 0; step < STEPS; step++) {
                now[step * NUMBERS + PRICE] = 1;
                now[step * NUMBERS + TIME] = 1;
                now[step * NUMBERS + CHANCE] = 500;
            }
        }

        int get(int step, int what) {
            return now[step * NUMBERS + what];
        }

        void put(int step, int what, int value) {
            now[step * NUMBERS + what] = value;
        }

        int sumOf(int set, int what) {
            int sum = 0;
            for (int step = 0; step < STEPS; step++) {
                if ((set >> step & 1) == 1) sum += get(step, what);
            }
            return sum;
        }

        int marksOf(int set) {
            int marks = 0;
            for (int step = 0; step < STEPS; step++) {
                if ((set >> step & 1) == 1) marks |= get(step, MARKS);
            }
            return marks;
        }

        void keep(int i) {
            System.arraycopy(now, 0, images[i], 0, now.length);
            kept[i] = true;
        }

        void restore(int i) {
            System.arraycopy(images[i], 0, now, 0, now.length);
        }

        int changed(int i) {
            int set = 0;
            for (int at = 0; at < now.length; at++) {
                if (now[at] != images[i][at]) set |= 1 << at / NUMBERS;
            }
            return set;
        }

        long mixInto(long h) {
            for (int at = 0; at < now.length; at++) h = 31 * h + now[at];
            return h;
        }
    }

    /** The TEXT, the KNOTS as they came, and which of them each NET stands for. */
    private static final class Nets {
        static final int LETTER = 0, ANY = 1, CHAIN = 2, BOTH = 3, SOME = 4;
        static final int MOST_KNOTS = 250, MOST_TEXT = 80;
        // A TEXT that is refused at its end has put its KNOTS, no more than its characters, behind the others.
        static final int ROOM = MOST_KNOTS + MOST_TEXT;

        final int[] text = new int[MOST_TEXT];
        int length = 0;
        final int[] roots = new int[LAST_NET + 1];
        final int[] sorts = new int[ROOM];
        final int[] sizes = new int[ROOM];
        final int[] needs = new int[ROOM];
        final int[] firsts = new int[ROOM];
        final int[] letters = new int[ROOM];
        int[] parts = new int[512];
        int knots = 0;
        int partsUsed = 0;
        final boolean[] on = new boolean[ROOM];
        final int[] times = new int[ROOM];
        final int[] few = new int[Reader.MOST_NETS];

        Nets() {
            Arrays.fill(roots, -1);
        }

        boolean append(int character) {
            if (length >= MOST_TEXT) return false;
            text[length] = character;
            length++;
            return true;
        }

        void forget() {
            Arrays.fill(roots, -1);
            shrinkTo(0, 0);
        }

        void shrinkTo(int knotsLeft, int partsLeft) {
            knots = knotsLeft;
            partsUsed = partsLeft;
        }

        int standing() {
            int n = 0;
            for (int net = 0; net <= LAST_NET; net++) {
                if (roots[net] >= 0) n++;
            }
            return n;
        }

        int partOf(int k, int i) {
            return parts[firsts[k] + i];
        }

        int addLetter(int step) {
            return addKnot(LETTER, step, 0, 1 << step);
        }

        int addRow(int sort, int need, int[] row, int start, int n) {
            if (partsUsed + n > parts.length) {
                parts = Arrays.copyOf(parts, Math.max(2 * parts.length, partsUsed + n));
            }
            int steps = 0;
            for (int i = 0; i < n; i++) {
                int part = row[start + i];
                parts[partsUsed + i] = part;
                steps |= letters[part];
            }
            int k = addKnot(sort, n, need, steps);
            partsUsed += n;
            return k;
        }

        private int addKnot(int sort, int size, int need, int steps) {
            if (knots >= ROOM) return ROOM - 1;
            sorts[knots] = sort;
            sizes[knots] = size;
            needs[knots] = need;
            firsts[knots] = partsUsed;
            letters[knots] = steps;
            knots++;
            return knots - 1;
        }

        /** How many parts of a row must be reached for it to be. */
        int enough(int k) {
            if (sorts[k] == ANY) return 1;
            return sorts[k] == SOME ? needs[k] : sizes[k];
        }

        boolean isReachedBy(int root, int set) {
            for (int k = 0; k <= root; k++) on[k] = knotIsOn(k, set);
            return on[root];
        }

        private boolean knotIsOn(int k, int set) {
            if (sorts[k] == LETTER) return (set >> sizes[k] & 1) == 1;
            int have = 0;
            for (int i = 0; i < sizes[k]; i++) {
                if (on[partOf(k, i)]) have++;
            }
            return have >= enough(k);
        }

        int timeByMany(int root, House house) {
            for (int k = 0; k <= root; k++) {
                times[k] = sorts[k] == LETTER ? house.get(sizes[k], House.TIME) : rowTime(k);
            }
            return times[root];
        }

        private int rowTime(int k) {
            if (sorts[k] == SOME) return someTime(k);
            int time = times[partOf(k, 0)];
            for (int i = 1; i < sizes[k]; i++) {
                int next = times[partOf(k, i)];
                if (sorts[k] == CHAIN) time += next;
                else time = sorts[k] == ANY ? Math.min(time, next) : Math.max(time, next);
            }
            return time;
        }

        private int someTime(int k) {
            int n = Math.min(sizes[k], few.length);
            for (int i = 0; i < n; i++) few[i] = times[partOf(k, i)];
            return risingAt(few, n, needs[k]);
        }

        /** The so-many-th of the first n, which are put in rising order. */
        static int risingAt(int[] row, int n, int which) {
            for (int i = 1; i < n; i++) {
                int value = row[i];
                int at = i;
                for (; at > 0 && row[at - 1] > value; at--) row[at] = row[at - 1];
                row[at] = value;
            }
            return row[which - 1];
        }

        long mixInto(long h) {
            for (int i = 0; i < length; i++) h = 31 * h + text[i];
            for (int net = 0; net <= LAST_NET; net++) {
                if (roots[net] >= 0) h = 31 * (31 * h + net) + roots[net];
            }
            for (int k = 0; k < knots; k++) {
                h = 31 * (31 * (31 * h + sorts[k]) + sizes[k]) + needs[k];
                int n = sorts[k] == LETTER ? 0 : sizes[k];
                for (int i = 0; i < n; i++) h = 31 * h + partOf(k, i);
            }
            return h;
        }
    }

    /** Reads the TEXT as a NET, and puts its KNOTS behind those that are there. */
    private static final class Reader {
        static final int MOST_OPEN = 8, MOST_NETS = 8;
        static final int WRONG = 1, SHORT = 2, ABSENT = 3, COUNT = 4, DEEP = 5, KNOTS = 6, LONG = 7;

        final Nets nets;
        // KNOTS that wait for their row to be whole: rows stand open one in the other.
        final int[] waiting = new int[Nets.ROOM];
        int top = 0;
        int place = 0;
        int fault = 0;

        Reader(Nets nets) {
            this.nets = nets;
        }

        /** The KNOT of the whole TEXT; where fault is not 0 all is as it was. */
        int readText() {
            int knots = nets.knots;
            int parts = nets.partsUsed;
            top = 0;
            place = 0;
            fault = 0;
            int root = readRow(Nets.ANY, 0);
            if (fault == 0 && next() >= 0) refuse(place, WRONG);
            if (fault == 0 && nets.knots > Nets.MOST_KNOTS) refuse(nets.length, KNOTS);
            if (fault != 0) nets.shrinkTo(knots, parts);
            return root;
        }

        /** The character that is to be read, behind blanks; below 0 at the end. */
        private int next() {
            while (place < nets.length && nets.text[place] == ' ') place++;
            return place < nets.length ? nets.text[place] : -1;
        }

        private int refuse(int at, int sort) {
            fault = 10 * at + sort;
            return -1;
        }

        private int refuseHere() {
            return refuse(place, next() < 0 ? SHORT : WRONG);
        }

        private void hold(int k) {
            if (top >= waiting.length) return;
            waiting[top] = k;
            top++;
        }

        private static int separator(int sort) {
            if (sort == Nets.ANY) return '|';
            return sort == Nets.CHAIN ? '>' : '&';
        }

        private int readRow(int sort, int open) {
            int start = top;
            hold(readInRow(sort, open));
            for (int n = 1; n <= Nets.MOST_TEXT && fault == 0 && next() == separator(sort); n++) {
                place++;
                hold(readInRow(sort, open));
            }
            int n = top - start;
            top = start;
            if (fault != 0) return -1;
            return n == 1 ? waiting[start] : nets.addRow(sort, 0, waiting, start, n);
        }

        private int readInRow(int sort, int open) {
            return sort == Nets.BOTH ? readPart(open) : readRow(sort + 1, open);
        }

        private int readPart(int open) {
            int c = next();
            if (c >= 'a' && c <= 'p') {
                place++;
                return nets.addLetter(c - 'a');
            }
            if (c >= '0' && c <= '9') return readDigit(c - '0');
            if (c != '(' && c != '[') return refuseHere();
            if (open >= MOST_OPEN) return refuse(place, DEEP);
            place++;
            return c == '(' ? readInside(open + 1) : readSome(open + 1);
        }

        private int readDigit(int net) {
            if (nets.roots[net] < 0) return refuse(place, ABSENT);
            place++;
            return nets.roots[net];
        }

        private int readInside(int open) {
            int k = readRow(Nets.ANY, open);
            return fault == 0 && closes(')') ? k : -1;
        }

        private boolean closes(int character) {
            if (next() == character) {
                place++;
                return true;
            }
            refuseHere();
            return false;
        }

        private int readSome(int open) {
            int c = next();
            if (c < '0' || c > '9') return refuseHere();
            int at = place;
            place++;
            int start = top;
            hold(readRow(Nets.ANY, open));
            for (int n = 1; n <= MOST_NETS && fault == 0 && next() == ','; n++) {
                if (n == MOST_NETS) {
                    refuse(place, LONG);
                } else {
                    place++;
                    hold(readRow(Nets.ANY, open));
                }
            }
            int n = top - start;
            top = start;
            if (fault != 0 || !closes(']')) return -1;
            int need = c - '0';
            if (need == 0 || need > n) return refuse(at, COUNT);
            return nets.addRow(Nets.SOME, need, waiting, start, n);
        }
    }

    /** For which SETS a KNOT is REACHED, as one bit for each SET of the STEPS that it has letters of. */
    private static final class Tables {
        // Rows of the pool: one for each STEP, then those that KNOTS take and leave. At most 10 KNOTS that
        // NETS stand for and 20 parts of one TEXT wait to be used at any time.
        static final int ROWS = STEPS + 40, MOST_LEAST = 200;
        private static final long[] STRIPES = {
            0xAAAAAAAAAAAAAAAAL, 0xCCCCCCCCCCCCCCCCL, 0xF0F0F0F0F0F0F0F0L,
            0xFF00FF00FF00FF00L, 0xFFFF0000FFFF0000L, 0xFFFFFFFF00000000L};

        final Nets nets;
        // STEPS of the NET by rank, and their ranks.
        final int[] order = new int[STEPS];
        final int[] rank = new int[STEPS];
        int steps = 0;
        int words = 1;
        int root = -1;
        // Where the NET's own row begins.
        int base = 0;
        // Whether some KNOT of the NET has too many least SETS.
        boolean over = false;
        long[] pool = new long[ROWS];
        final boolean[] busy = new boolean[ROWS];
        final boolean[] needed = new boolean[Nets.ROOM];
        final int[] lastUse = new int[Nets.ROOM];
        final int[] row = new int[Nets.ROOM];
        // How many least SETS a KNOT has; 0 if that was not counted yet.
        final int[] leasts = new int[Nets.ROOM];
        final long[] tally = new long[Reader.MOST_NETS + 1];

        Tables(Nets nets) {
            this.nets = nets;
        }

        void forget() {
            root = -1;
            Arrays.fill(leasts, 0);
        }

        void fillFor(int knot) {
            if (knot == root) return;
            root = knot;
            rankSteps(nets.letters[knot]);
            words = steps <= 6 ? 1 : 1 << steps - 6;
            if (pool.length < ROWS * words) pool = new long[ROWS * words];
            for (int r = 0; r < steps; r++) fillStep(r);
            for (int r = 0; r < ROWS; r++) busy[r] = r < STEPS;
            markNeeded();
            over = false;
            for (int k = 0; k <= root; k++) {
                if (!needed[k]) continue;
                if (nets.sorts[k] == Nets.LETTER) {
                    row[k] = rank[nets.sizes[k]];
                    continue;
                }
                fillKnot(k);
                if (leasts[k] == 0) leasts[k] = countLeast(row[k] * words);
                if (leasts[k] > MOST_LEAST) over = true;
            }
            base = row[root] * words;
        }

        private void rankSteps(int letters) {
            steps = 0;
            for (int step = 0; step < STEPS; step++) {
                if ((letters >> step & 1) == 1) {
                    order[steps] = step;
                    rank[step] = steps;
                    steps++;
                }
            }
        }

        private void fillStep(int r) {
            for (int w = 0; w < words; w++) {
                if (r < STRIPES.length) pool[r * words + w] = STRIPES[r];
                else pool[r * words + w] = hasRank(w, r) ? -1L : 0L;
            }
        }

        /** Whether all SETS of a word have the STEP of a rank above those that tell them apart in the word. */
        private static boolean hasRank(int w, int r) {
            return (w >> r - STRIPES.length & 1) == 1;
        }

        private void markNeeded() {
            for (int k = 0; k < root; k++) needed[k] = false;
            needed[root] = true;
            for (int k = root; k >= 0; k--) {
                int n = needed[k] && nets.sorts[k] != Nets.LETTER ? nets.sizes[k] : 0;
                for (int i = 0; i < n; i++) {
                    int part = nets.partOf(k, i);
                    // From the last KNOT down: the first that needs a part is the last to use it.
                    if (!needed[part]) lastUse[part] = k;
                    needed[part] = true;
                }
            }
        }

        private void fillKnot(int k) {
            int to = STEPS;
            while (to < ROWS - 1 && busy[to]) to++;
            busy[to] = true;
            row[k] = to;
            if (nets.sorts[k] == Nets.SOME) fillSome(k);
            else fillRow(k);
            for (int i = 0; i < nets.sizes[k]; i++) {
                int part = nets.partOf(k, i);
                if (nets.sorts[part] != Nets.LETTER && lastUse[part] == k) busy[row[part]] = false;
            }
        }

        private void fillRow(int k) {
            int to = row[k] * words;
            boolean any = nets.sorts[k] == Nets.ANY;
            for (int w = 0; w < words; w++) pool[to + w] = any ? 0L : -1L;
            for (int i = 0; i < nets.sizes[k]; i++) {
                int from = row[nets.partOf(k, i)] * words;
                for (int w = 0; w < words; w++) {
                    if (any) pool[to + w] |= pool[from + w];
                    else pool[to + w] &= pool[from + w];
                }
            }
        }

        /** Counts the parts that are REACHED, for 64 SETS at once: tally[n] tells where n of them are. */
        private void fillSome(int k) {
            int need = Math.min(nets.needs[k], tally.length - 1);
            for (int w = 0; w < words; w++) {
                Arrays.fill(tally, 0L);
                tally[0] = -1L;
                for (int i = 0; i < nets.sizes[k]; i++) {
                    long part = pool[row[nets.partOf(k, i)] * words + w];
                    for (int n = need; n > 0; n--) tally[n] |= tally[n - 1] & part;
                }
                pool[row[k] * words + w] = tally[need];
            }
        }

        private int countLeast(int at) {
            int n = 0;
            for (int w = 0; w < words && n <= MOST_LEAST; w++) n += Long.bitCount(leastWord(at, w));
            return n;
        }

        /** Of 64 SETS those that are REACHED, and without any one of their STEPS are not. */
        long leastWord(int at, int w) {
            long have = pool[at + w];
            long more = 0;
            for (int r = 0; r < steps; r++) {
                if (r < STRIPES.length) more |= have << (1 << r) & STRIPES[r];
                else if (hasRank(w, r)) more |= pool[at + w - (1 << r - STRIPES.length)];
            }
            // With few STEPS the row of SETS is there more than once in its word.
            long told = steps < STRIPES.length ? (1L << (1 << steps)) - 1 : -1L;
            return have & ~more & told;
        }

        /** Whether a SET, told by ranks of STEPS, REACHES the NET: 1, 0. */
        int bit(int set) {
            return (int) (pool[base + (set >> 6)] >>> (set & 63) & 1);
        }

        int narrowed(int set) {
            int ranks = 0;
            for (int r = 0; r < steps; r++) ranks |= (set >> order[r] & 1) << r;
            return ranks;
        }

        int widened(int ranks) {
            int set = 0;
            for (int r = 0; r < steps; r++) set |= (ranks >> r & 1) << order[r];
            return set;
        }
    }

    /** The WAYS of a NET in their order, and what is asked of them; INSIDERS, whom only WAYS know. */
    private static final class Ways {
        static final int MOST_INSIDERS = 6;

        final House house;
        final Tables tables;
        final int[] list = new int[Tables.MOST_LEAST];
        final int[] found = new int[Tables.MOST_LEAST];
        int total = 0;
        int root = -1;
        final int[] given = new int[MOST_INSIDERS];
        int insiders = 0;
        // MARKS of the WAYS that MAY have been gone.
        final int[] left = new int[Tables.MOST_LEAST];

        Ways(House house, Tables tables) {
            this.house = house;
            this.tables = tables;
        }

        void forget() {
            root = -1;
        }

        /** Lists the WAYS; false if SPENT. */
        boolean listAll(int knot) {
            tables.fillFor(knot);
            if (tables.over) return false;
            if (root != knot) {
                root = knot;
                sortBySize(findAll());
            }
            return true;
        }

        private int findAll() {
            int n = 0;
            for (int w = 0; w < tables.words; w++) {
                long word = tables.leastWord(tables.base, w);
                for (int b = 0; b < 64 && word != 0; b++) {
                    if ((word >>> b & 1) == 1 && n < found.length) {
                        found[n] = tables.widened(w * 64 + b);
                        n++;
                    }
                }
            }
            return n;
        }

        /** What was found is in the order of numbers, so that each size by itself is, too. */
        private void sortBySize(int n) {
            total = 0;
            for (int size = 1; size <= STEPS; size++) {
                for (int i = 0; i < n; i++) {
                    if (Integer.bitCount(found[i]) == size) {
                        list[total] = found[i];
                        total++;
                    }
                }
            }
        }

        int firstLeast(int what) {
            int best = 0;
            int least = House.ABOVE_SUMS;
            for (int i = 0; i < total; i++) {
                int sum = house.sumOf(list[i], what);
                if (sum < least) {
                    least = sum;
                    best = list[i];
                }
            }
            return best;
        }

        boolean bribe(int steps) {
            if (insiders >= MOST_INSIDERS) return false;
            given[insiders] = steps;
            insiders++;
            return true;
        }

        int givenBy(int set) {
            int steps = 0;
            for (int i = 0; i < insiders; i++) {
                if ((set >> i & 1) == 1) steps |= given[i];
            }
            return steps;
        }

        int leastPriceWith(int free) {
            int least = House.ABOVE_SUMS;
            for (int i = 0; i < total; i++) {
                least = Math.min(least, house.sumOf(list[i] & ~free, House.PRICE));
            }
            return least;
        }

        int worstSet(int k) {
            int worst = 0;
            int least = House.ABOVE_SUMS;
            for (int set = 0; set < 1 << insiders; set++) {
                if (Integer.bitCount(set) != k) continue;
                int price = leastPriceWith(givenBy(set));
                if (price < least) {
                    least = price;
                    worst = set;
                }
            }
            return worst;
        }

        /** How many WAYS MAY have been gone; their MARKS are left. */
        int sift(int seen, int missed) {
            int n = 0;
            for (int i = 0; i < total; i++) {
                int marks = house.marksOf(list[i]);
                if ((seen & ~marks) == 0 && (missed & marks) == 0) {
                    left[n] = marks;
                    n++;
                }
            }
            return n;
        }

        int markToAsk(int seen, int missed) {
            int n = sift(seen, missed);
            int best = NONE;
            // A MARK that leaves all WAYS on one side parts none.
            int least = n;
            for (int mark = 0; mark < 8; mark++) {
                if (((seen | missed) >> mark & 1) == 1) continue;
                int with = 0;
                for (int i = 0; i < n; i++) with += left[i] >> mark & 1;
                int greater = Math.max(with, n - with);
                if (greater < least) {
                    least = greater;
                    best = mark;
                }
            }
            return best;
        }

        long mixInto(long h) {
            for (int i = 0; i < insiders; i++) h = 31 * h + given[i];
            return h;
        }
    }

    /** THE FRACTION; and the long numbers that lead to it, as rows of limbs in an array, lowest first. */
    private static final class Fraction {
        static final int BITS = 30, MASK = (1 << BITS) - 1;
        // 1000 to the power of 16 has 160 bits.
        static final int LIMBS = 6;

        final int[] above = new int[LIMBS];
        final int[] below = new int[LIMBS];

        Fraction() {
            below[0] = 1;
        }

        boolean isZero() {
            return isZeroRow(above);
        }

        private static boolean isZeroRow(int[] row) {
            for (int i = 0; i < LIMBS; i++) {
                if (row[i] != 0) return false;
            }
            return true;
        }

        /** No number begins with a limb of 0: so 0 has none at all. */
        int limbsOf(int part) {
            int[] row = part == 0 ? above : below;
            int n = LIMBS;
            while (n > 0 && row[n - 1] == 0) n--;
            return n;
        }

        int limbOf(int part, int i) {
            return part == 0 ? above[i] : below[i];
        }

        /** A number by 1000 to a power: no primes but 2 and 5 can be in common. */
        void putThousandths(int[] nums, int at, int limbs, int power) {
            Arrays.fill(above, 0);
            System.arraycopy(nums, at, above, 0, Math.min(limbs, LIMBS));
            int twos = isZero() ? 0 : 3 * power;
            int fives = twos;
            for (; twos > 0 && remainder(above, 2) == 0; twos--) divide(above, 2);
            for (; fives > 0 && remainder(above, 5) == 0; fives--) divide(above, 5);
            Arrays.fill(below, 0);
            below[0] = 1;
            for (int i = 0; i < twos; i++) multiply(below, 0, LIMBS, 2);
            for (int i = 0; i < fives; i++) multiply(below, 0, LIMBS, 5);
        }

        void putRatio(long up, long down) {
            long common = commonDivisor(up, down);
            if (common < 1) common = 1;
            spread(up / common, above);
            spread(down / common, below);
        }

        private static long commonDivisor(long a, long b) {
            // Numbers below 2 to the 63rd take 91 turns at most.
            for (int turns = 0; turns < 100 && b != 0; turns++) {
                long rest = a % b;
                a = b;
                b = rest;
            }
            return a;
        }

        private static void spread(long number, int[] row) {
            Arrays.fill(row, 0);
            for (int i = 0; i < 3; i++) {
                row[i] = (int) (number & MASK);
                number >>= BITS;
            }
        }

        private static int remainder(int[] row, int by) {
            if (by < 1) return 0;
            long rest = 0;
            for (int i = LIMBS - 1; i >= 0; i--) rest = ((rest << BITS) + row[i]) % by;
            return (int) rest;
        }

        private static void divide(int[] row, int by) {
            if (by < 1) return;
            long rest = 0;
            for (int i = LIMBS - 1; i >= 0; i--) {
                rest = (rest << BITS) + row[i];
                row[i] = (int) (rest / by);
                rest %= by;
            }
        }

        static void multiply(int[] nums, int at, int limbs, int by) {
            long carry = 0;
            for (int i = 0; i < limbs; i++) {
                carry += (long) nums[at + i] * by;
                nums[at + i] = (int) (carry & MASK);
                carry >>= BITS;
            }
        }

        static void putPower(int[] nums, int at, int limbs, int power) {
            wipe(nums, at, limbs);
            nums[at] = 1;
            for (int i = 0; i < power; i++) multiply(nums, at, limbs, THOUSAND);
        }

        /** Of the number at high the odds, of that at low the rest of 1000; both can be divided by 1000. */
        static void blend(int[] nums, int at, int high, int low, int odds, int limbs) {
            long carry = 0;
            for (int i = 0; i < limbs; i++) {
                carry += (long) odds * nums[high + i] + (long) (THOUSAND - odds) * nums[low + i];
                nums[at + i] = (int) (carry & MASK);
                carry >>= BITS;
            }
            for (int i = limbs - 1; i >= 0; i--) {
                carry = (carry << BITS) + nums[at + i];
                nums[at + i] = (int) (carry / THOUSAND);
                carry %= THOUSAND;
            }
        }

        static int compareRows(int[] nums, int a, int b, int limbs) {
            for (int i = limbs - 1; i >= 0; i--) {
                if (nums[a + i] != nums[b + i]) return nums[a + i] < nums[b + i] ? -1 : 1;
            }
            return 0;
        }

        /** From the row in a what stands in b; never below 0 here. */
        static void subtract(int[] a, int[] b, int at, int limbs) {
            long carry = 0;
            for (int i = 0; i < limbs; i++) {
                carry += a[i] - b[at + i];
                a[i] = (int) (carry & MASK);
                carry >>= BITS;
            }
        }

        static void wipe(int[] row, int from, int n) {
            for (int i = 0; i < n; i++) row[from + i] = 0;
        }

        /** The row if it is long enough, else a new one, twice as long at least: so few rows are left behind. */
        static int[] grown(int[] row, int need) {
            return row.length >= need ? row : new int[Math.max(need, 2 * row.length)];
        }
    }

    /** THE DIAGRAM of a NET, and THE CHANCE that is worked by it. */
    private static final class Diagram {
        static final int MOST_SIZE = 400;
        // With 12 STEPS told 168 unlike tellings are left at most, so that no NET has above 4261 in all.
        static final int MOST_NODES = 4400, MOST_HASH = 8192;

        final House house;
        final Tables tables;
        int root = -1;
        int nodes = 2;
        int top = 0;
        int mask = 0;
        int limbs = 1;
        int[] ids = new int[64];
        int[] hash = new int[64];
        int[] ranks = new int[64];
        int[] lows = new int[64];
        int[] highs = new int[64];
        int[] nums = new int[64];
        final int[] spare = new int[Fraction.LIMBS];
        final int[] odds = new int[STEPS];

        Diagram(House house, Tables tables) {
            this.house = house;
            this.tables = tables;
        }

        void forget() {
            root = -1;
        }

        /** From the last STEP up: a telling hangs on its STEP if it goes on unlike with it and without. */
        void draw(int knot) {
            tables.fillFor(knot);
            if (knot == root) return;
            root = knot;
            makeRoom(tables.steps);
            int half = 1 << tables.steps - 1;
            for (int s = 0; s < half; s++) {
                ids[s] = nodeFor(tables.steps - 1, tables.bit(s), tables.bit(s + half));
            }
            for (int r = tables.steps - 2; r >= 0; r--) {
                half = 1 << r;
                for (int s = 0; s < half; s++) ids[s] = nodeFor(r, ids[s], ids[s + half]);
            }
            top = ids[0];
        }

        private void makeRoom(int steps) {
            int room = Math.min(MOST_NODES, (1 << steps) + 2);
            int cells = Math.min(MOST_HASH, 2 << steps);
            ids = Fraction.grown(ids, 1 << steps - 1);
            ranks = Fraction.grown(ranks, room);
            lows = Fraction.grown(lows, room);
            highs = Fraction.grown(highs, room);
            hash = Fraction.grown(hash, cells);
            Fraction.wipe(hash, 0, cells);
            mask = cells - 1;
            nodes = 2;
            // Limbs of 30 bits, three STEPS in each.
            limbs = (steps + 2) / 3;
        }

        private int nodeFor(int rank, int low, int high) {
            if (low == high) return low;
            int cell = (low * 40503 + high * 30011 + rank) & mask;
            for (int tries = 0; tries <= mask && hash[cell] != 0; tries++) {
                int node = hash[cell];
                if (lows[node] == low && highs[node] == high && ranks[node] == rank) return node;
                cell = cell + 1 & mask;
            }
            if (nodes >= ranks.length) return low;
            ranks[nodes] = rank;
            lows[nodes] = low;
            highs[nodes] = high;
            hash[cell] = nodes;
            nodes++;
            return nodes - 1;
        }

        int drawnSize() {
            return nodes - 2;
        }

        /** Draws; false if chances are SPENT. */
        boolean mayWork(int knot) {
            draw(knot);
            return drawnSize() <= MOST_SIZE;
        }

        /** CHANCES for the work, 0 for STEPS that are never done. */
        void takeOdds(int never) {
            for (int r = 0; r < tables.steps; r++) {
                int step = tables.order[r];
                odds[r] = (never >> step & 1) == 1 ? 0 : house.get(step, House.CHANCE);
            }
        }

        /** Where in nums THE CHANCE stands, in parts of 1000 to the power of how many STEPS. */
        int work() {
            nums = Fraction.grown(nums, nodes * limbs);
            Fraction.wipe(nums, 0, limbs);
            Fraction.putPower(nums, limbs, limbs, tables.steps);
            for (int n = 2; n < nodes; n++) {
                Fraction.blend(nums, n * limbs, highs[n] * limbs, lows[n] * limbs, odds[ranks[n]], limbs);
            }
            return top * limbs;
        }

        /** THE WEIGHT of a STEP comes into spare. */
        void workWeight(int step) {
            Arrays.fill(spare, 0);
            if (tables.narrowed(1 << step) == 0) return;
            takeOdds(0);
            int r = tables.rank[step];
            odds[r] = THOUSAND;
            int at = work();
            System.arraycopy(nums, at, spare, 0, limbs);
            odds[r] = 0;
            at = work();
            Fraction.subtract(spare, nums, at, limbs);
        }

        /** BEST, told by ranks; the CHANCE of each SET then stands at its place in nums. */
        int bestSet(int budget) {
            workSets();
            int best = 0;
            int leastPrice = 0;
            for (int set = 1; set < 1 << tables.steps; set++) {
                int price = house.sumOf(tables.widened(set), House.PRICE);
                if (price > budget) continue;
                int better = Fraction.compareRows(nums, set * limbs, best * limbs, limbs);
                if (better > 0 || better == 0 && price < leastPrice) {
                    best = set;
                    leastPrice = price;
                }
            }
            return best;
        }

        /** At first each SET is done for sure; STEP by STEP it is then done or not with its CHANCE. */
        private void workSets() {
            int sets = 1 << tables.steps;
            nums = Fraction.grown(nums, sets * limbs);
            takeOdds(0);
            for (int set = 0; set < sets; set++) {
                if (tables.bit(set) == 1) Fraction.putPower(nums, set * limbs, limbs, tables.steps);
                else Fraction.wipe(nums, set * limbs, limbs);
            }
            for (int r = 0; r < tables.steps; r++) {
                for (int set = 0; set < sets; set++) {
                    if ((set >> r & 1) == 0) continue;
                    int at = set * limbs;
                    Fraction.blend(nums, at, at, (set ^ 1 << r) * limbs, odds[r], limbs);
                }
            }
        }
    }

    /** GUARDS, the least of them that HOLD a NET, and THE FRONT. */
    private static final class Guards {
        static final int MOST = 10;

        final Tables tables;
        final Diagram diagram;
        int total = 0;
        // For each set of GUARDS.
        int[] stops = new int[1];
        int[] prices = new int[1];
        int[] chances = new int[1];
        int[] frontSets = new int[1];
        int[] keys = new int[1];
        int fronts = 0;
        int frontRoot = -1;
        int frontLimbs = 1;
        int frontSteps = 0;

        Guards(Tables tables, Diagram diagram) {
            this.tables = tables;
            this.diagram = diagram;
        }

        boolean hire(int steps, int price) {
            if (total >= MOST) return false;
            int sets = 1 << total;
            stops = Arrays.copyOf(stops, 2 * sets);
            prices = Arrays.copyOf(prices, 2 * sets);
            for (int set = 0; set < sets; set++) {
                stops[sets + set] = stops[set] | steps;
                prices[sets + set] = prices[set] + price;
            }
            total++;
            forgetFront();
            return true;
        }

        void forgetFront() {
            frontRoot = -1;
        }

        int leastHolding(int root) {
            tables.fillFor(root);
            int best = NONE;
            for (int set = 0; set < 1 << total; set++) {
                if (best >= 0 && !isCheaper(set, best)) continue;
                if (tables.bit(tables.narrowed(ALL_STEPS & ~stops[set])) == 0) best = set;
            }
            return best;
        }

        private boolean isCheaper(int set, int other) {
            if (prices[set] != prices[other]) return prices[set] < prices[other];
            return Integer.bitCount(set) < Integer.bitCount(other);
        }

        /** Draws THE FRONT; false if SPENT. */
        boolean drawFront(int root) {
            if (root == frontRoot) return true;
            diagram.draw(root);
            if (diagram.drawnSize() > Diagram.MOST_SIZE) return false;
            frontRoot = root;
            frontLimbs = diagram.limbs;
            frontSteps = tables.steps;
            int n = workChances();
            sort(n);
            pickFront(n);
            return true;
        }

        /** The CHANCES of sets that can stand in THE FRONT; keys put them by PRICE, then number. */
        private int workChances() {
            int sets = 1 << total;
            chances = Fraction.grown(chances, sets * frontLimbs);
            keys = Fraction.grown(keys, sets);
            int n = 0;
            for (int set = 0; set < sets; set++) {
                if (hasIdler(set)) continue;
                diagram.takeOdds(stops[set]);
                int at = diagram.work();
                System.arraycopy(diagram.nums, at, chances, set * frontLimbs, frontLimbs);
                keys[n] = prices[set] << MOST | set;
                n++;
            }
            return n;
        }

        /** Whether one of a set could go and as much would be stopped: the set without him is then told. */
        private boolean hasIdler(int set) {
            int all = tables.narrowed(stops[set]);
            for (int g = 0; g < total; g++) {
                if ((set >> g & 1) == 1 && tables.narrowed(stops[set ^ 1 << g]) == all) return true;
            }
            return false;
        }

        private void sort(int n) {
            for (int gap = n / 2; gap > 0; gap /= 2) {
                for (int i = gap; i < n; i++) {
                    int key = keys[i];
                    int at = i;
                    for (; at >= gap && keys[at - gap] > key; at -= gap) keys[at] = keys[at - gap];
                    keys[at] = key;
                }
            }
        }

        private void pickFront(int n) {
            frontSets = Fraction.grown(frontSets, n);
            fronts = 0;
            for (int i = 0; i < n; i++) {
                int set = keys[i] & (1 << MOST) - 1;
                if (fronts > 0) {
                    int last = frontSets[fronts - 1];
                    int at = set * frontLimbs;
                    if (Fraction.compareRows(chances, at, last * frontLimbs, frontLimbs) >= 0) continue;
                    if (prices[last] == prices[set]) fronts--;
                }
                frontSets[fronts] = set;
                fronts++;
            }
        }

        long mixInto(long h) {
            for (int g = 0; g < total; g++) h = 31 * (31 * h + stops[1 << g]) + prices[1 << g];
            return h;
        }
    }

    /** PATROLS, and THE GAME, as a table of whole numbers by one divisor, turned till nobody gains. */
    private static final class Game {
        static final int MOST_PATROLS = 6, MOST_WAYS = 24;
        static final long TOP_BIT = 1L << 63;

        final Ways ways;
        final int[] catching = new int[MOST_PATROLS * STEPS];
        int total = 0;
        // All that comes up is a minor of the first table with a row or column of ones: below 2 to the 63rd.
        final long[] cells = new long[(MOST_PATROLS + 1) * (MOST_WAYS + 1)];
        final int[] rowNames = new int[MOST_PATROLS];
        final int[] columnNames = new int[MOST_WAYS];
        int columns = 0;
        int width = 0;
        long divisor = 1;
        long above = 0;
        long below = 1;

        Game(Ways ways) {
            this.ways = ways;
        }

        boolean hire() {
            if (total >= MOST_PATROLS) return false;
            Fraction.wipe(catching, total * STEPS, STEPS);
            total++;
            return true;
        }

        int catchOf(int patrol, int step) {
            return catching[patrol * STEPS + step];
        }

        void putCatch(int patrol, int step, int v) {
            catching[patrol * STEPS + step] = v;
        }

        /** THE VALUE as above by below. One is put to all at first, as a value of 0 has no reciprocal. */
        void play() {
            layOut();
            for (int turns = 0; turns < 1000000; turns++) {
                int column = enteringColumn();
                if (column < 0) break;
                int row = leavingRow(column);
                if (row < 0) break;
                turn(row, column);
            }
            long sum = cells[total * width + columns];
            above = sum > 0 ? divisor - sum : 0;
            below = sum > 0 ? sum : 1;
        }

        private void layOut() {
            columns = Math.min(ways.total, MOST_WAYS);
            width = columns + 1;
            divisor = 1;
            for (int i = 0; i < total; i++) {
                rowNames[i] = columns + i;
                for (int j = 0; j < columns; j++) cells[i * width + j] = 1 + greatestCatch(i, ways.list[j]);
                cells[i * width + columns] = 1;
            }
            for (int j = 0; j < columns; j++) {
                columnNames[j] = j;
                cells[total * width + j] = -1;
            }
            cells[total * width + columns] = 0;
        }

        private int greatestCatch(int patrol, int way) {
            int greatest = 0;
            for (int step = 0; step < STEPS; step++) {
                if ((way >> step & 1) == 1) greatest = Math.max(greatest, catchOf(patrol, step));
            }
            return greatest;
        }

        /** Of those that gain the one of the least name, here and for rows: so no table comes again. */
        private int enteringColumn() {
            int best = -1;
            for (int j = 0; j < columns; j++) {
                if (cells[total * width + j] >= 0) continue;
                if (best < 0 || columnNames[j] < columnNames[best]) best = j;
            }
            return best;
        }

        private int leavingRow(int column) {
            int best = -1;
            for (int i = 0; i < total; i++) {
                if (cells[i * width + column] > 0 && (best < 0 || isTighter(i, best, column))) best = i;
            }
            return best;
        }

        private boolean isTighter(int i, int other, int column) {
            long a = cells[i * width + columns];
            long b = cells[other * width + column];
            long c = cells[other * width + columns];
            long d = cells[i * width + column];
            long high = highOfDifference(a, b, c, d);
            if (high != 0) return high < 0;
            return a * b == c * d && rowNames[i] < rowNames[other];
        }

        private void turn(int row, int column) {
            long pivot = cells[row * width + column];
            int zeros = Long.bitCount((divisor & -divisor) - 1);
            long inverse = inverseOf(divisor >> zeros);
            for (int i = 0; i <= total; i++) {
                if (i == row) continue;
                long factor = cells[i * width + column];
                for (int j = 0; j <= columns; j++) {
                    if (j == column) continue;
                    long a = cells[i * width + j];
                    long b = cells[row * width + j];
                    long high = highOfDifference(a, pivot, factor, b);
                    cells[i * width + j] = shifted(high, a * pivot - factor * b, zeros) * inverse;
                }
                cells[i * width + column] = -factor;
            }
            cells[row * width + column] = divisor;
            divisor = pivot;
            int name = rowNames[row];
            rowNames[row] = columnNames[column];
            columnNames[column] = name;
        }

        /** What an odd number is to be multiplied by to give 1, modulo 2 to the 64th: each turn doubles the bits. */
        private static long inverseOf(long odd) {
            long x = odd;
            for (int i = 0; i < 5; i++) x *= 2 - odd * x;
            return x;
        }

        private static long shifted(long high, long low, int by) {
            return by == 0 ? low : low >>> by | high << 64 - by;
        }

        /** The upper 64 bits of a b - c d. */
        private static long highOfDifference(long a, long b, long c, long d) {
            // With the top bit turned, numbers without a sign compare as those with one.
            boolean borrow = (a * b ^ TOP_BIT) < (c * d ^ TOP_BIT);
            return highOfProduct(a, b) - highOfProduct(c, d) - (borrow ? 1 : 0);
        }

        private static long highOfProduct(long a, long b) {
            long half = 0xFFFFFFFFL;
            long low = (a & half) * (b & half);
            long middle = (a >> 32) * (b & half) + (low >>> 32);
            long other = (a & half) * (b >> 32) + (middle & half);
            return (a >> 32) * (b >> 32) + (middle >> 32) + (other >> 32);
        }

        long mixInto(long h) {
            for (int at = 0; at < total * STEPS; at++) h = 31 * h + catching[at];
            return h;
        }
    }

    /** THE DRILL: EVENTS one behind the other. */
    private static final class Drill {
        static final int MOST = 40;

        final House house;
        final Nets nets;
        final int[] steps = new int[MOST];
        final int[] minutes = new int[MOST];
        int total = 0;
        // For each KNOT and place from which it is told: the EVENT, or NONE.
        int[] at = new int[64];
        int places = 1;
        final int[] few = new int[Reader.MOST_NETS];

        Drill(House house, Nets nets) {
            this.house = house;
            this.nets = nets;
        }

        int lastMinute() {
            return total == 0 ? 0 : minutes[total - 1];
        }

        boolean append(int step, int minute) {
            if (total >= MOST) return false;
            steps[total] = step;
            minutes[total] = minute;
            total++;
            return true;
        }

        int firstTooSoon() {
            int ahead = 0;
            for (int i = 0; i < total; i++) {
                if (minutes[i] - ahead < house.get(steps[i], House.TIME)) return i;
                ahead = minutes[i];
            }
            return NONE;
        }

        int eventReaching(int root, int p) {
            places = total + 1;
            at = Fraction.grown(at, (root + 1) * places);
            for (int k = 0; k <= root; k++) {
                for (int from = p; from <= total; from++) at[k * places + from] = knotEvent(k, from);
            }
            return at[root * places + p];
        }

        private int knotEvent(int k, int from) {
            switch (nets.sorts[k]) {
                case Nets.LETTER: return letterEvent(nets.sizes[k], from);
                case Nets.ANY: return firstEvent(k, from);
                case Nets.CHAIN: return chainEvent(k, from);
                case Nets.BOTH: return lastEvent(k, from);
                default: return someEvent(k, from);
            }
        }

        private int letterEvent(int step, int from) {
            for (int i = from; i < total; i++) {
                if (steps[i] == step) return i;
            }
            return NONE;
        }

        private int partEvent(int k, int i, int from) {
            return at[nets.partOf(k, i) * places + from];
        }

        private int firstEvent(int k, int from) {
            int first = NONE;
            for (int i = 0; i < nets.sizes[k]; i++) {
                int event = partEvent(k, i, from);
                if (event >= 0 && (first < 0 || event < first)) first = event;
            }
            return first;
        }

        private int lastEvent(int k, int from) {
            int last = NONE;
            for (int i = 0; i < nets.sizes[k]; i++) {
                int event = partEvent(k, i, from);
                if (event < 0) return NONE;
                last = Math.max(last, event);
            }
            return last;
        }

        private int chainEvent(int k, int from) {
            int event = from - 1;
            for (int i = 0; i < nets.sizes[k]; i++) {
                event = partEvent(k, i, event + 1);
                if (event < 0) return NONE;
            }
            return event;
        }

        private int someEvent(int k, int from) {
            int n = 0;
            for (int i = 0; i < nets.sizes[k] && n < few.length; i++) {
                int event = partEvent(k, i, from);
                if (event >= 0) {
                    few[n] = event;
                    n++;
                }
            }
            return n < nets.needs[k] ? NONE : Nets.risingAt(few, n, nets.needs[k]);
        }

        long mixInto(long h) {
            for (int i = 0; i < total; i++) h = 31 * (31 * h + steps[i]) + minutes[i];
            return h;
        }
    }

    /** WATCHMEN on their rounds, and the ORDERS of STEPS between them. */
    private static final class Watch {
        static final int MOST_PLACES = 12, NEVER = MOST_END + 1;

        final House house;
        final int[] rounds = new int[(LAST_MAN + 1) * MOST_PLACES];
        final int[] lengths = new int[LAST_MAN + 1];
        // PLACES, as bits, where a WATCHMAN stands at each minute.
        final int[] watched = new int[MOST_END];
        final int[] chosen = new int[MOST_ORDER];
        int total = 0;
        // For each chosen STEP: its END if it may begin from a minute on.
        int[] ends = new int[NEVER];
        final int[] soonest = new int[1 << MOST_ORDER];

        Watch(House house) {
            this.house = house;
        }

        boolean addPlace(int man, int place) {
            if (lengths[man] >= MOST_PLACES) return false;
            rounds[man * MOST_PLACES + lengths[man]] = place;
            lengths[man]++;
            return true;
        }

        int menAt(int place, int minute) {
            int men = 0;
            for (int man = 0; man <= LAST_MAN; man++) {
                if (placeOf(man, minute) == place) men++;
            }
            return men;
        }

        private int placeOf(int man, int minute) {
            if (lengths[man] == 0) return NONE;
            return rounds[man * MOST_PLACES + minute % lengths[man]];
        }

        int firstBegin(int step, int minute) {
            int place = house.get(step, House.PLACE);
            int time = house.get(step, House.TIME);
            int free = 0;
            for (int now = minute; now < MOST_END; now++) {
                free = menAt(place, now) == 0 ? free + 1 : 0;
                if (free == time) return now + 1 - time;
            }
            return NONE;
        }

        int bestEnd(int set, int minute) {
            prepare(set, minute);
            int end = soonestEnd((1 << total) - 1, minute);
            return end < NEVER ? end : NONE;
        }

        int stepInOrder(int set, int minute, int i) {
            prepare(set, minute);
            int left = (1 << total) - 1;
            int end = soonestEnd(left, minute);
            if (end >= NEVER || i >= total) return NONE;
            int now = minute;
            for (int at = 0; at < i; at++) {
                int c = firstToGo(left, now, end);
                if (c < 0) return NONE;
                left &= ~(1 << c);
                now = ends[c * NEVER + now];
            }
            int c = firstToGo(left, now, end);
            return c < 0 ? NONE : chosen[c];
        }

        /** The first STEP behind which the others still come to the END. */
        private int firstToGo(int left, int now, int end) {
            for (int c = 0; c < total; c++) {
                if ((left >> c & 1) == 0) continue;
                int next = ends[c * NEVER + now];
                if (next <= end && soonestEnd(left & ~(1 << c), next) == end) return c;
            }
            return NONE;
        }

        /** A STEP that may begin sooner never ends later, so the soonest END of a part is all that counts. */
        private int soonestEnd(int left, int minute) {
            soonest[0] = minute;
            for (int part = 1; part <= left; part++) {
                if ((part & ~left) != 0) continue;
                int end = NEVER;
                for (int c = 0; c < total; c++) {
                    if ((part >> c & 1) == 0) continue;
                    int before = soonest[part & ~(1 << c)];
                    if (before < NEVER) end = Math.min(end, ends[c * NEVER + before]);
                }
                soonest[part] = end;
            }
            return soonest[left];
        }

        private void prepare(int set, int minute) {
            total = 0;
            for (int step = 0; step < STEPS && total < MOST_ORDER; step++) {
                if ((set >> step & 1) == 1) {
                    chosen[total] = step;
                    total++;
                }
            }
            ends = Fraction.grown(ends, total * NEVER);
            if (total > 0) lookRound(minute);
            for (int c = 0; c < total; c++) findEnds(c, minute);
        }

        private void lookRound(int minute) {
            for (int now = minute; now < MOST_END; now++) {
                watched[now] = 0;
                for (int man = 0; man <= LAST_MAN; man++) {
                    int place = placeOf(man, now);
                    if (place >= 0) watched[now] |= 1 << place;
                }
            }
        }

        private void findEnds(int c, int minute) {
            int place = house.get(chosen[c], House.PLACE);
            int time = house.get(chosen[c], House.TIME);
            int free = 0;
            ends[c * NEVER + MOST_END] = NEVER;
            for (int now = MOST_END - 1; now >= minute; now--) {
                free = (watched[now] >> place & 1) == 0 ? free + 1 : 0;
                ends[c * NEVER + now] = free >= time ? now + time : ends[c * NEVER + now + 1];
            }
        }

        long mixInto(long h) {
            for (int man = 0; man <= LAST_MAN; man++) {
                h = 31 * h + lengths[man];
                for (int i = 0; i < lengths[man]; i++) h = 31 * h + rounds[man * MOST_PLACES + i];
            }
            return h;
        }
    }
}
