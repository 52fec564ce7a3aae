/** Promises 23 to 32: guards, patrols, insiders. */
public final class GuardsTest {
    private static final int MAX = Integer.MAX_VALUE, MIN = Integer.MIN_VALUE;
    private static final int NONE = GuardNets.NONE, BAD = GuardNets.BAD, NO = GuardNets.NO,
        FULL = GuardNets.FULL, SPENT = GuardNets.SPENT;

    public static void main(String[] args) {
        promise23();
        promise24();
        promise25();
        promises26And27();
        frontKeepsUp();
        frontOfMany();
        promises28And29();
        promise30();
        gamesAtTheirLimit();
        promises31And32();
        refusals();
        Due.end();
    }

    private static void promise23() {
        GuardNets x = new GuardNets();
        int[][] bad = {{-1, 0}, {65536, 0}, {0, -1}, {0, 1001}, {MAX, MIN}};
        for (int[] a : bad) Due.is("23 guard", x.guard(a[0], a[1]), BAD);
        Due.is("23 guard", x.guard(65535, 1000), 0);
        for (int g = 1; g < 10; g++) Due.is("23 guard", x.guard(0, 0), g);
        Due.is("23 full", x.guard(0, 0), FULL);
        Due.is("23 bad ahead of full", x.guard(0, 1001), BAD);
        Due.is("23 count", x.count(3), 10);
    }

    private static void promise24() {
        GuardNets x = Due.with("a&(b|c)>d", "p");
        Due.is("24 nobody", x.holds(0, 0), 0);
        Due.is("24 not there", x.holds(0, 1), BAD);
        x.guard(2, 3);
        x.guard(4, 2);
        x.guard(1, 9);
        int[] due = {0, 0, 0, 1, 1, 1, 1, 1};
        for (int set = 0; set < 8; set++) {
            Due.is("24 holds " + set, x.holds(0, set), due[set]);
            Due.is("24 holds another", x.holds(1, set), 0);
        }
        Due.is("24 not there", x.holds(0, 8), BAD);
        Due.is("24 below 0", x.holds(0, -1), BAD);
        Due.is("24 bad ahead of no", x.holds(9, 8), BAD);
        Due.is("24 no", x.holds(9, 7), NO);
        x.guard(32768, 0);
        Due.is("24 high step", x.holds(1, 8), 1);
    }

    private static void promise25() {
        GuardNets x = Due.with("a&(b|c)>d", "p");
        Due.is("25 nobody", x.leastGuards(0), NONE);
        x.guard(2, 3);
        Due.is("25 not enough", x.leastGuards(0), NONE);
        x.guard(4, 2);
        Due.is("25 both", x.leastGuards(0), 3);
        x.guard(1, 9);
        Due.is("25 cheaper", x.leastGuards(0), 3);
        x.guard(8, 5);
        Due.is("25 as cheap, but fewer", x.leastGuards(0), 8);
        x.guard(9, 5);
        Due.is("25 the least number", x.leastGuards(0), 8);
        x.guard(1, 4);
        Due.is("25 the cheapest", x.leastGuards(0), 32);
        x.guard(0, 0);
        Due.is("25 no more than needed", x.leastGuards(0), 32);
        Due.is("25 another", x.leastGuards(1), NONE);
        Due.is("25 no", x.leastGuards(5), NO);
        x = Due.with("a&b");
        x.guard(1, 0);
        x.guard(2, 0);
        Due.is("25 free of price", x.leastGuards(0), 1);
        x = Due.with("a");
        x.guard(0, 0);
        x.guard(1, 1);
        Due.is("25 fewest", x.leastGuards(0), 2);
    }

    private static void at(GuardNets x, int i, int set, int price, String chance) {
        x.limbs(0);
        Due.is("27 set " + i, x.frontAt(0, i, 0), set);
        Due.is("27 chance " + i, Due.fraction(x), chance);
        Due.is("27 price " + i, x.frontAt(0, i, 1), price);
        Due.is("27 chance " + i, Due.fraction(x), chance);
    }

    private static void promises26And27() {
        GuardNets x = Due.with("a&(b|c)>d");
        x.step(1, 9, 2, 250);
        x.step(2, 4, 7, 900);
        Due.is("26 nobody", x.front(0), 1);
        at(x, 0, 0, 0, "37/160");
        x.guard(2, 3);
        x.guard(4, 2);
        x.guard(1, 9);
        Due.is("26 front", x.front(0), 3);
        at(x, 0, 0, 0, "37/160");
        at(x, 1, 2, 2, "1/16");
        at(x, 2, 3, 5, "0/1");
        x.frontAt(0, 1, 0);
        Due.is("27 behind", x.frontAt(0, 3, 0), NONE);
        Due.is("27 far", x.frontAt(0, MAX, 1), NONE);
        Due.is("27 the fraction stays", Due.fraction(x), "1/16");
        Due.is("27 below 0", x.frontAt(0, -1, 0), BAD);
        Due.is("27 what", x.frontAt(0, 0, 2), BAD);
        Due.is("27 what", x.frontAt(9, 0, -1), BAD);
        Due.is("27 no", x.frontAt(9, 0, 0), NO);
        x.guard(8, 5);
        at(x, 2, 3, 5, "0/1");
        x.guard(4, 2);
        at(x, 1, 2, 2, "1/16");
        x.guard(6, 0);
        Due.is("26 all for nothing", x.front(0), 1);
        at(x, 0, 32, 0, "0/1");
        x = Due.with("a|b");
        x.guard(2, 1);
        x.guard(1, 1);
        x.step(1, 1, 1, 400);
        Due.is("26 of one price the less chance", x.front(0), 3);
        at(x, 1, 2, 1, "2/5");
        at(x, 2, 3, 2, "0/1");
    }

    /** THE FRONT is told as things are now. */
    private static void frontKeepsUp() {
        GuardNets x = Due.with("a|b", "a");
        x.guard(1, 1);
        at(x, 1, 1, 1, "1/2");
        x.step(1, 1, 1, 100);
        at(x, 1, 1, 1, "1/10");
        x.image(0);
        x.step(1, 1, 1, 0);
        at(x, 1, 1, 1, "0/1");
        x.from(0);
        at(x, 1, 1, 1, "1/10");
        Due.is("26 another net", x.front(1), 2);
        Due.put(x, 0, "b|c");
        Due.is("26 another knot", x.front(0), 1);
        at(x, 0, 0, 0, "11/20");
        x.clear();
        Due.is("26 cleared", x.front(0), NO);
        Due.put(x, 0, "a>b");
        Due.put(x, 0, "a|b");
        at(x, 0, 0, 0, "11/20");
        x.guard(3, 5);
        Due.is("26 one more guard", x.front(0), 3);
        at(x, 2, 2, 5, "0/1");
        x.chance(0);
        x.weight(0, 1);
        at(x, 1, 1, 1, "1/10");
    }

    private static void frontOfMany() {
        GuardNets x = Due.with("a|b|c|d|e|f|g|h|i|j");
        for (int g = 0; g < 10; g++) {
            x.step(g, 1, 1, 1000);
            x.guard(1 << g, 1000);
        }
        Due.is("26 all or nobody", x.front(0), 2);
        at(x, 1, 1023, 10000, "0/1");
        x = Due.with("a&b&c&d&e&f&g&h&i&j|k");
        for (int g = 0; g < 10; g++) x.guard(1 << g, 10 - g);
        Due.is("26 any does", x.front(0), 2);
        at(x, 1, 512, 1, "1/2");
    }

    private static void promises28And29() {
        GuardNets x = new GuardNets();
        Due.is("29 none yet", x.catches(0, 0, 0), BAD);
        for (int p = 0; p < 6; p++) {
            Due.is("28 patrol", x.patrol(), p);
            Due.is("29 the next is not there", x.catches(p + 1, 0, 0), BAD);
        }
        Due.is("28 full", x.patrol(), FULL);
        Due.is("28 count", x.count(4), 6);
        for (int p = 0; p < 6; p++) {
            for (int step = 0; step < 16; step++) Due.is("28 catches nothing", x.catches(p, step, 10 * p + step), 0);
        }
        for (int p = 0; p < 6; p++) {
            for (int step = 0; step < 16; step++) Due.is("29 what it was", x.catches(p, step, 1000), 10 * p + step);
        }
        int[][] bad = {{-1, 0, 0}, {6, 0, 0}, {0, -1, 0}, {0, 16, 0}, {0, 0, -1}, {0, 0, 1001}, {MAX, MIN, MAX}};
        for (int[] a : bad) Due.is("29 catches", x.catches(a[0], a[1], a[2]), BAD);
        Due.is("29 as it was", x.catches(0, 0, 0), 1000);
    }

    private static void game(GuardNets x, int net, String due) {
        Due.is("30 game", x.game(net), 1);
        Due.is("30 value of " + net, Due.fraction(x), due);
    }

    private static void promise30() {
        GuardNets x = Due.with("a|b", "a&c", "c|d", "a|b|c", "a&d|b&d");
        Due.is("30 no patrols", x.game(0), NO);
        x.patrol();
        game(x, 0, "0/1");
        x.catches(0, 0, 500);
        game(x, 0, "0/1");
        game(x, 1, "500/1");
        x.patrol();
        x.catches(1, 1, 700);
        game(x, 0, "875/3");
        game(x, 2, "0/1");
        game(x, 3, "0/1");
        x.catches(1, 0, 500);
        game(x, 0, "500/1");
        x.catches(0, 3, 600);
        game(x, 4, "600/1");
        x.catches(1, 3, 600);
        game(x, 4, "600/1");
        x.catches(1, 1, 1000);
        game(x, 4, "600/1");
        x.catches(0, 0, 1000);
        game(x, 4, "800/1");
        x = Due.with("a|b|c");
        for (int p = 0; p < 3; p++) {
            x.patrol();
            x.catches(p, p, 1000);
        }
        game(x, 0, "1000/3");
        for (int p = 0; p < 3; p++) x.catches(p, p, 1);
        game(x, 0, "1/3");
        x.catches(0, 0, 2);
        game(x, 0, "2/5");
    }

    /** Tables of 6 by 24, with large values, held against another way to work them. */
    private static void gamesAtTheirLimit() {
        long seed = 12345;
        for (int game = 0; game < 60; game++) {
            GuardNets x = Due.with(Houses.WAYS_24, "0|k", "0>l");
            Due.is("30 ways", x.ways(0), 24);
            Due.is("30 ways", x.ways(1), 25);
            for (int p = 0; p < 6; p++) x.patrol();
            int[][] c = new int[6][16];
            for (int p = 0; p < 6; p++) {
                for (int s = 0; s < 10; s++) {
                    seed = seed * 6364136223846793005L + 1442695040888963407L;
                    int v = (int) (seed >>> 40) % 1001;
                    if (game % 4 == 1) v = s < 6 && (v & 1) == 0 ? 0 : 1000 - v % 5;
                    if (game % 4 == 2) v = v % 2 * 1000;
                    if (game % 4 == 3) v = s == p || s > 5 && v < 400 ? 1000 - v % 7 : v % 7;
                    c[p][s] = v;
                    x.catches(p, s, v);
                }
            }
            long[][] table = new long[6][24];
            for (int j = 0; j < 24; j++) {
                int way = x.wayAt(0, j);
                for (int p = 0; p < 6; p++) {
                    for (int s = 0; s < 16; s++) if ((way >> s & 1) == 1) table[p][j] = Math.max(table[p][j], c[p][s]);
                }
            }
            Ratio due = PlainGame.valueByTurning(table);
            game(x, 0, due.up + "/" + due.down);
            game(x, 2, due.up + "/" + due.down);
            Due.is("30 spent", x.game(1), SPENT);
        }
    }

    private static void promises31And32() {
        GuardNets x = Due.with("a>b&c", "a|b&c", "p");
        x.step(0, 5, 1, 500);
        x.step(1, 2, 1, 500);
        x.step(2, 4, 1, 500);
        Due.is("32 nobody", x.worst(0, 0, 0), 11);
        Due.is("32 nobody", x.worst(0, 0, 1), 0);
        Due.is("32 not so many", x.worst(0, 1, 0), BAD);
        Due.is("31 insider", x.insider(1), 0);
        Due.is("31 insider", x.insider(6), 1);
        Due.is("31 insider", x.insider(4), 2);
        Due.is("32 price", x.worst(0, 0, 0), 11);
        Due.is("32 price", x.worst(0, 1, 0), 5);
        Due.is("32 set", x.worst(0, 1, 1), 2);
        Due.is("32 price", x.worst(0, 2, 0), 0);
        Due.is("32 set", x.worst(0, 2, 1), 3);
        Due.is("32 all", x.worst(0, 3, 1), 7);
        Due.is("32 of like ones the least", x.worst(1, 1, 1), 1);
        Due.is("32 price", x.worst(1, 0, 0), 5);
        Due.is("32 no help", x.worst(2, 2, 0), 1);
        Due.is("32 no help", x.worst(2, 2, 1), 3);
        Due.is("32 k", x.worst(0, 4, 0), BAD);
        Due.is("32 k", x.worst(0, -1, 0), BAD);
        Due.is("32 what", x.worst(0, 0, 2), BAD);
        Due.is("32 what", x.worst(9, 0, -1), BAD);
        Due.is("32 no", x.worst(9, 0, 0), NO);
        Due.is("31 steps", x.insider(-1), BAD);
        Due.is("31 steps", x.insider(65536), BAD);
        Due.is("31 none", x.insider(0), 3);
        Due.is("31 all", x.insider(65535), 4);
        Due.is("32 who gives all", x.worst(2, 1, 1), 16);
        Due.is("31 insider", x.insider(0), 5);
        Due.is("31 full", x.insider(0), FULL);
        Due.is("31 bad ahead of full", x.insider(65536), BAD);
        Due.is("31 count", x.count(5), 6);
        Due.is("32 six", x.worst(0, 6, 1), 63);
    }

    private static void refusals() {
        GuardNets x = new GuardNets();
        x.patrol();
        int[] bad = {-1, 10, MAX, MIN};
        for (int net : bad) {
            Due.is("24 bad", x.holds(net, 0), BAD);
            Due.is("25 bad", x.leastGuards(net), BAD);
            Due.is("26 bad", x.front(net), BAD);
            Due.is("27 bad", x.frontAt(net, 0, 0), BAD);
            Due.is("30 bad", x.game(net), BAD);
            Due.is("32 bad", x.worst(net, 0, 0), BAD);
        }
        Due.is("24 no", x.holds(0, 0), NO);
        Due.is("25 no", x.leastGuards(0), NO);
        Due.is("26 no", x.front(0), NO);
        Due.is("27 no", x.frontAt(0, 0, 0), NO);
        Due.is("30 no", x.game(0), NO);
        Due.is("32 no", x.worst(0, 0, 0), NO);
        Due.put(x, 0, WaysTest.PAIRS);
        Due.is("30 spent", x.game(0), SPENT);
        Due.is("30 no patrols is ahead of spent", Due.with(WaysTest.PAIRS).game(0), NO);
    }
}
