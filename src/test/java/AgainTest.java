import java.util.ArrayList;
import java.util.List;
import java.util.Random;

/**
 * What was worked out for one NET, or ahead of a change, is not told of what comes behind it: each answer is as that
 * of an object that was never asked before.
 */
public final class AgainTest {
    /** All that is asked of a NET N. */
    private static final String[] ASKED = {"ways N", "wayAt N 0", "wayAt N 1", "least N 0", "least N 1", "leastWay N 0", "leastWay N 1", "many N", "size N",
        "chance N", "weight N 0", "best N 16000", "leastGuards N", "front N", "frontAt N 0 0", "frontAt N 1 1", "game N", "worst N 1 0", "worst N 1 1",
        "may N 1 0", "ask N 0 0", "reached N 0", "holds N 1", "reaches N 1", "knot N 4"};

    public static void main(String[] args) {
        aNetOfKnot0();
        clearedAndMadeAnew();
        clearedToKnot0();
        clearedAndOfManyWays();
        clearedAndOfALargeSize();
        netsOfEachNumberOfSteps();
        fractionsBehindOthers();
        aGameBehindALongFraction();
        bestAheadOfAChance();
        frontsBehindOthers();
        stepsChange();
        watchmenGoHome();
        oneNetBehindAnother();
        partsThatAreNeededAgain();
        Due.end();
    }

    /** Three STEPS, two GUARDS, a PATROL, two INSIDERS, MARKS and EVENTS, but no NETS. */
    private static GuardNets house() {
        GuardNets x = new GuardNets();
        x.step(0, 3, 2, 250);
        x.step(1, 5, 3, 700);
        x.step(2, 2, 4, 100);
        x.trace(0, 1, 0);
        x.trace(1, 3, 1);
        x.guard(1, 2);
        x.guard(2, 0);
        x.patrol();
        x.catches(0, 0, 300);
        x.catches(0, 1, 900);
        x.insider(1);
        x.insider(2);
        x.event(2, 4);
        x.event(1, 6);
        x.event(0, 9);
        return x;
    }

    private static String all(GuardNets x, int net) {
        StringBuilder all = new StringBuilder();
        for (String row : ASKED) {
            all.append(row).append(' ').append(Rows.call(x, row.replace("N", "" + net)));
            if (Calls.putsFraction(Rows.name(row))) all.append(' ').append(Due.fraction(x));
            all.append("; ");
        }
        return all.toString();
    }

    private static GuardNets houseWith(String... texts) {
        GuardNets x = house();
        for (int net = 0; net < texts.length; net++) Due.is("make " + texts[net], Due.put(x, net, texts[net]), 0);
        return x;
    }

    /** The least number that a KNOT can have. */
    private static void aNetOfKnot0() {
        GuardNets x = house();
        Due.put(x, 0, "b");
        Rows.due("a net of knot 0", x, "knot 0 0 = 0", "knot 0 1 = 0", "knot 0 2 = 1", "knot 0 3 = 0", "knot 0 4 = 2", "part 0 0 = -1", "reaches 0 2 = 1",
            "reaches 0 1 = 0", "ways 0 = 1", "wayAt 0 0 = 2", "wayAt 0 1 = -1", "least 0 0 = 5", "least 0 1 = 3", "leastWay 0 0 = 2", "leastWay 0 1 = 2",
            "many 0 = 3", "size 0 = 1", "chance 0 = 1", "limb 0 0 = 7", "limb 1 0 = 10", "weight 0 1 = 1", "limb 0 0 = 1", "weight 0 0 = 0");
        Rows.due("a net of knot 0", x, "best 0 5 = 2", "best 0 4 = 0", "holds 0 2 = 1", "holds 0 1 = 0", "leastGuards 0 = 2", "front 0 = 1", "frontAt 0 0 0 = 2",
            "frontAt 0 0 1 = 0", "game 0 = 1", "limb 0 0 = 900", "worst 0 1 0 = 0", "worst 0 1 1 = 2", "worst 0 0 0 = 5", "may 0 1 0 = 1", "may 0 4 0 = 0",
            "ask 0 0 0 = -1", "reached 0 0 = 1", "reached 0 2 = -1");
    }

    private static void clearedAndMadeAnew() {
        String[] ahead = {"a|b", "a&b", "c|b", "a&c", "b>a"};
        for (String first : ahead) {
            for (String second : ahead) {
                GuardNets x = houseWith(first);
                String was = all(x, 0);
                Due.is("asked again", all(x, 0), was);
                x.clear();
                Due.put(x, 0, second);
                Due.is(second + " behind " + first + " cleared", all(x, 0), all(houseWith(second), 0));
            }
        }
    }

    private static void clearedToKnot0() {
        for (String row : ASKED) {
            GuardNets x = houseWith("a");
            String asked = row.replace("N", "0");
            Rows.call(x, asked);
            x.clear();
            Due.put(x, 0, "b");
            Due.is("b behind a cleared, asked " + row, Rows.call(x, asked), Rows.call(houseWith("b"), asked));
            Due.is("all of b behind a cleared", all(x, 0), all(houseWith("b"), 0));
        }
    }

    private static void clearedAndOfManyWays() {
        GuardNets x = Due.with(WaysTest.PAIRS);
        int root = x.knot(0, 0);
        Rows.due("spent", x, "ways 0 = -5", "clear = 25");
        Due.put(x, 0, "(a|b)&(c|d)&(e|f)&(g|h)&(i|j)&(k|l)&(m|n)&(a|p)");
        Due.is("the same number", x.knot(0, 0), root);
        Rows.due("fewer behind more", x, "ways 0 = 128", "clear = 25");
        Due.put(x, 0, "(a|b)&(c|d)&(e|f)&(g|h)&(i|j)&(k|l)&(a|b)&(a|b)");
        Due.is("the same number", x.knot(0, 0), root);
        Rows.due("fewer behind more", x, "ways 0 = 64", "clear = 25");
        Due.put(x, 0, WaysTest.PAIRS);
        Rows.due("more behind fewer", x, "ways 0 = -5");
    }

    private static void clearedAndOfALargeSize() {
        GuardNets x = Due.with("a&i|b&j|c&k|d&l|e&m|f&n|g&o|h&p");
        Rows.due("large", x, "size 0 = 510", "chance 0 = -5", "clear = 25");
        Due.put(x, 0, "a&b|c&d|e&f|g&h|i&j|k&l|m&n|o&p");
        Rows.due("small behind large", x, "knot 0 0 = 24", "size 0 = 16", "chance 0 = 1", "front 0 = 1", "clear = 25");
        Due.put(x, 0, "a&i|b&j|c&k|d&l|e&m|f&n|g&o|h&p");
        Rows.due("large behind small", x, "chance 0 = -5", "front 0 = -5", "size 0 = 510");
    }

    /** From one STEP to all and back, with one object. */
    private static void netsOfEachNumberOfSteps() {
        String letters = "abcdefghijklmnop";
        for (int turn = 0; turn < 2; turn++) {
            for (int part = 0; part < 4; part++) {
                GuardNets x = new GuardNets();
                for (int i = 0; i < 4; i++) {
                    int n = turn == 0 ? 4 * part + i + 1 : 16 - 4 * part - i;
                    Due.is("make", Due.put(x, 0, Houses.rowOf(n, letters, '|')) + Due.put(x, 1, Houses.rowOf(n, letters, '&')), 0);
                    Rows.due("of " + n + " steps", x, "ways 0 = " + n, "wayAt 0 0 = 1", "wayAt 0 " + (n - 1) + " = " + (1 << n - 1), "wayAt 0 " + n + " = -1",
                        "size 0 = " + n, "ways 1 = 1", "wayAt 1 0 = " + ((1 << n) - 1), "size 1 = " + n, "chance 1 = 1", "limb 1 0 = " + (1 << n),
                        "limb 0 0 = 1", "chance 0 = 1", "limb 0 0 = " + ((1 << n) - 1), "weight 0 " + (n - 1) + " = 1", "limb 1 0 = " + (1 << n - 1));
                    Due.is("best of " + n, x.best(1, 16), n <= 12 ? (1 << n) - 1 : GuardNets.NO);
                }
            }
        }
        GuardNets x = Due.with("a|p", "b&o|c", Houses.rowOf(16, letters, '|'), "a", Houses.rowOf(7, letters, '&'), Houses.rowOf(8, letters, '|'));
        int[] order = {3, 0, 1, 4, 5, 2, 3, 2, 5, 4, 1, 0, 2, 4, 0, 5, 3, 1};
        int[] ways = {2, 2, 16, 1, 1, 8};
        int[] sizes = {2, 4, 16, 1, 7, 8};
        for (int net : order) Rows.due("now one, now the other", x, "ways " + net + " = " + ways[net], "size " + net + " = " + sizes[net], "chance " + net + " = 1");
    }

    private static void fractionsBehindOthers() {
        GuardNets x = Due.with("a", "a&b&c&d", "a&b&c&d&e&f&g&h&i&j&k&l&m&n&o&p", "a|b&c&d&e&f&g");
        int[] order = {0, 1, 0, 2, 0, 2, 1, 2, 3, 0, 1, 3, 2, 3, 0, 3, 1};
        String[] due = {"1/2", "1/16", "1/65536", "65/128"};
        for (int net : order) {
            x.chance(net);
            Due.is("the chance of " + net, Due.fraction(x), due[net]);
        }
        for (int net : order) {
            Due.is("weight", x.weight(net, 0), 1);
            Due.is("the weight in " + net, Due.fraction(x), net == 0 ? "1/1" : net == 1 ? "1/8" : net == 2 ? "1/32768" : "63/64");
        }
    }

    private static void aGameBehindALongFraction() {
        GuardNets x = Due.with("a&b&c&d&e&f&g&h&i&j&k&l&m&n&o&p", "a|b");
        for (int s = 0; s < 16; s++) x.step(s, 1, 1, 999);
        x.patrol();
        x.catches(0, 0, 1000);
        x.catches(0, 1, 77);
        Rows.due("long", x, "chance 0 = 1", "limbs 0 = 6", "limbs 1 = 6", "game 1 = 1", "limbs 0 = 1", "limb 0 0 = 77", "limb 0 1 = -1", "limbs 1 = 1",
            "limb 1 0 = 1", "limb 1 5 = -1");
        x.catches(0, 1, 0);
        Rows.due("a game of 0", x, "chance 0 = 1", "game 1 = 1", "limb 0 0 = -1", "limbs 1 = 1", "limb 1 0 = 1");
        Rows.due("a weight of 0", x, "chance 0 = 1", "weight 1 15 = 0", "limb 0 0 = -1", "limbs 1 = 1", "limb 1 0 = 1");
    }

    private static void bestAheadOfAChance() {
        GuardNets x = Due.with("a|b|c|d|e|f|g|h|i|j|k|l", "a&b&c&d&e&f&g&h&i&j&k&l&m&n&o&p", "a&b");
        for (int turn = 0; turn < 2; turn++) {
            Rows.due("best", x, "best 0 3 = 7");
            Due.is("its chance", Due.fraction(x), "7/8");
            Rows.due("chance", x, "chance 1 = 1");
            Due.is("the chance behind best", Due.fraction(x), "1/65536");
            Rows.due("best", x, "best 2 16 = 3", "best 0 3 = 7", "chance 2 = 1");
            Due.is("the chance behind best", Due.fraction(x), "1/4");
        }
    }

    private static void frontsBehindOthers() {
        GuardNets x = Due.with("a", "b", "c", "a|b");
        x.guard(1, 0);
        x.guard(2, 3);
        Rows.due("fronts", x, "front 0 = 1", "frontAt 0 0 0 = 1", "front 1 = 2", "frontAt 1 0 0 = 0", "frontAt 1 1 0 = 2", "frontAt 1 1 1 = 3", "front 2 = 1",
            "frontAt 2 0 0 = 0", "frontAt 2 0 1 = 0", "front 3 = 2", "frontAt 3 0 0 = 1", "frontAt 3 1 0 = 3", "frontAt 1 1 0 = 2", "frontAt 0 0 0 = 1",
            "frontAt 0 1 0 = -1", "frontAt 2 0 0 = 0");
    }

    /** Each number of a STEP counts from the next call on. */
    private static void stepsChange() {
        GuardNets x = houseWith("a|b", "a&b|c");
        for (int turn = 0; turn < 3; turn++) {
            all(x, turn % 2);
            x.step(turn % 2, 7 + turn, 9 - turn, 333 + turn);
            x.trace(turn % 2, 1 << turn, 0);
            GuardNets y = houseWith("a|b", "a&b|c");
            for (int t = 0; t <= turn; t++) {
                y.step(t % 2, 7 + t, 9 - t, 333 + t);
                y.trace(t % 2, 1 << t, 0);
            }
            Due.is("behind step and trace " + turn, all(x, turn % 2), all(y, turn % 2));
        }
        x = houseWith("a|b");
        x.image(0);
        String was = all(x, 0);
        x.step(0, 999, 50, 1);
        x.trace(1, 255, 7);
        all(x, 0);
        x.from(0);
        Due.is("from an image", all(x, 0), was);
    }

    private static void watchmenGoHome() {
        GuardNets x = new GuardNets();
        x.trace(1, 0, 7);
        for (int turn = 0; turn < 3; turn++) {
            Rows.due("nobody", x, "end 3 0 = 2", "begins 0 0 = 0", "begins 1 0 = 0", "orderAt 3 0 0 = 0", "orderAt 3 0 1 = 1");
            Rows.due("at place 0", x, "walk 3 0 = 1", "begins 0 0 = -1", "end 1 0 = -1", "end 2 0 = 1", "end 3 0 = -1", "orderAt 3 0 0 = -1", "stands 0 5 = 1");
            Rows.due("one minute at place 7", x, "walk 3 7 = 2", "begins 0 0 = 1", "begins 1 1 = 2", "end 3 0 = 2", "orderAt 3 0 0 = 1", "orderAt 3 0 1 = 0");
            Rows.due("home", x, "home 3 = 2", "begins 1 1 = 1", "begins 0 0 = 0", "end 1 0 = 1", "end 3 0 = 2", "orderAt 3 0 0 = 0", "stands 0 5 = 0");
            Rows.due("at place 7", x, "walk 0 7 = 1", "begins 1 0 = -1", "end 2 0 = -1", "end 1 0 = 1", "end 3 0 = -1", "home 0 = 1", "end 2 0 = 1");
        }
    }

    /** Many NETS of many KNOTS, asked one behind the other, and in another order of an object of their own. */
    private static void oneNetBehindAnother() {
        Random random = new Random(4);
        for (int run = 0; run < 12; run++) {
            List<String> texts = new ArrayList<>();
            for (int net = 0; net < 6; net++) {
                StringBuilder text = new StringBuilder();
                for (int i = 0; i < 4; i++) {
                    text.append(i > 0 ? "|&>".charAt(random.nextInt(3)) : ' ');
                    if (net > 0 && random.nextInt(4) == 0) text.append(random.nextInt(net));
                    else text.append((char) ('a' + random.nextInt(run < 6 ? 3 : 16)));
                }
                texts.add(text.toString());
            }
            GuardNets x = houseWith(texts.toArray(new String[0]));
            String[] one = new String[6];
            for (int net = 0; net < 6; net++) {
                one[net] = all(houseWith(texts.toArray(new String[0])), net);
            }
            int[] order = {5, 0, 3, 1, 4, 2};
            for (int i = 0; i < 6; i++) Due.is("net " + order[i] + " of " + texts, all(x, order[i]), one[order[i]]);
        }
    }

    /** What a KNOT is reached by is still known where it is a part once more, though others came between. */
    private static void partsThatAreNeededAgain() {
        GuardNets x = Due.with("a|b", "0&c", "(d|e)&0&1", "(f|g)&((a|b)&c|2)&0", "((a|b)&c)|[2d,e,f]", "[2(a|b)&c,[2d,e,f],(g|h)&i]", "[2 0,[2 0,c,d],1]");
        int[] ways = {2, 2, 4, 4, 5, 16, 4};
        int[] sizes = {2, 3, 5, 5, 7, 14, 4};
        for (int turn = 0; turn < 2; turn++) {
            for (int net = 0; net < 7; net++) {
                Due.is("ways of " + net, x.ways(net), ways[net]);
                Due.is("size of " + net, x.size(net), sizes[net]);
            }
        }
        Due.is("a way of all", x.wayAt(2, 3), Due.set("bce"));
    }
}
