/** Promises 23 to 32 at their edges: a method for each sentence of the document that names some. */
public final class EdgesGuardsTest {
    private static final int MAX = Integer.MAX_VALUE, MIN = Integer.MIN_VALUE;
    private static final int BAD = GuardNets.BAD, NO = GuardNets.NO, FULL = GuardNets.FULL, SPENT = GuardNets.SPENT;

    public static void main(String[] args) {
        guardsAtTheirEnds();
        tenGuardsAreFull();
        holdsOfNobodyAndOfAll();
        setsOfGuardsThatAreThere();
        leastGuardsOfNobody();
        leastGuardsByPriceThenHowManyThenNumber();
        leastGuardsForNothing();
        frontOfNobody();
        frontOfGuardsOfNoUse();
        frontOfLikeSets();
        frontOfOnePrice();
        frontOfOneChance();
        frontOf1024Sets();
        frontPricesAtTheirEnds();
        frontAtItsEnds();
        sixPatrolsAreFull();
        catchesAtTheirEnds();
        gameOfNoPatrols();
        gameOf24Ways();
        gameOf25WaysIsSpent();
        gamesAtTheirEnds();
        gamesOfTheGreatestNumbers();
        gameOfFewWays();
        sixInsidersAreFull();
        worstOfNoneAndOfAll();
        worstForK();
        worstAtPrice0();
        whatIsRefused();
        Due.end();
    }

    private static void guardsAtTheirEnds() {
        GuardNets x = Due.with("a", "p");
        Rows.due("23", x, "guard 0 0 = 0", "guard 65535 1000 = 1", "guard 65535 0 = 2", "guard 0 1000 = 3", "guard 1 1 = 4", "guard 32768 1 = 5");
        Rows.due("24", x, "holds 0 1 = 0", "holds 0 2 = 1", "holds 1 2 = 1", "holds 0 8 = 0", "holds 0 16 = 1", "holds 1 16 = 0", "holds 1 32 = 1");
        int[][] bad = {{-1, 0}, {65536, 0}, {0, -1}, {0, 1001}, {MAX, 0}, {MIN, 0}, {0, MAX}, {0, MIN}};
        for (int[] a : bad) Rows.refused("23", x, "guard " + a[0] + " " + a[1], BAD);
    }

    private static void tenGuardsAreFull() {
        GuardNets x = Due.with("a&b");
        for (int g = 0; g < 10; g++) Due.is("23 guard", x.guard(1 << g, 1), g);
        Rows.due("23", x, "count 3 = 10", "leastGuards 0 = 1", "holds 0 1023 = 1", "holds 0 1020 = 0", "holds 0 2 = 1");
        Rows.refused("23 full", x, "guard 0 0", FULL);
        Rows.refused("23 full", x, "guard 65535 1000", FULL);
        Rows.refused("23 bad ahead of full", x, "guard 65536 0", BAD);
        Rows.refused("23 bad ahead of full", x, "guard 0 -1", BAD);
        Rows.refused("24 an eleventh", x, "holds 0 1024", BAD);
    }

    private static void holdsOfNobodyAndOfAll() {
        GuardNets x = Due.with("a|b|c|d|e|f|g|h|i|j|k|l|m|n|o|p", "a&b&c&d&e&f&g&h&i&j&k&l&m&n&o&p");
        Rows.due("24 nobody", x, "holds 0 0 = 0", "holds 1 0 = 0");
        x.guard(65534, 0);
        x.guard(1, 0);
        Rows.due("24 one step is left", x, "holds 0 1 = 0", "holds 1 1 = 1", "holds 0 2 = 0", "holds 1 2 = 1", "holds 0 3 = 1", "holds 1 3 = 1");
    }

    private static void setsOfGuardsThatAreThere() {
        GuardNets x = Due.with("a");
        for (int g = 0; g <= 10; g++) {
            Due.is("24 all of " + g, x.holds(0, (1 << g) - 1), 0);
            Rows.refused("24 one that is not there", x, "holds 0 " + (1 << g), BAD);
            Rows.refused("24 bad ahead of no", x, "holds 9 " + (1 << g), BAD);
            Rows.refused("24 not there", x, "holds 9 0", NO);
            x = Due.with("a");
            for (int n = 0; n <= g; n++) x.guard(2, 1);
        }
    }

    private static void leastGuardsOfNobody() {
        GuardNets x = Due.with("a");
        Rows.due("25", x, "leastGuards 0 = -1", "guard 65534 0 = 0", "leastGuards 0 = -1", "guard 0 0 = 1", "leastGuards 0 = -1", "guard 1 1000 = 2",
            "leastGuards 0 = 4", "leastGuards 9 = -3");
    }

    private static void leastGuardsByPriceThenHowManyThenNumber() {
        GuardNets x = Due.with("a|b");
        Rows.due("25", x, "guard 1 2 = 0", "guard 2 2 = 1", "leastGuards 0 = 3", "guard 3 5 = 2", "leastGuards 0 = 3");
        Rows.due("25 as dear, but fewer", x, "guard 3 4 = 3", "leastGuards 0 = 8", "guard 3 4 = 4", "leastGuards 0 = 8");
        Rows.due("25 the cheapest, though more", x, "guard 1 1 = 5", "leastGuards 0 = 34", "guard 2 2 = 6", "leastGuards 0 = 34");
        Rows.due("25 cheaper, of the greatest number", x, "guard 3 2 = 7", "leastGuards 0 = 128", "guard 3 2 = 8", "guard 2 0 = 9", "leastGuards 0 = 544");
    }

    private static void leastGuardsForNothing() {
        GuardNets x = Due.with("a");
        for (int g = 0; g < 9; g++) x.guard(0, 0);
        x.guard(1, 0);
        Rows.due("25 alone, as fewest", x, "leastGuards 0 = 512");
    }

    /** THE FRONT of NET 0 in rows, as "set price chance". */
    private static void front(GuardNets x, String... rows) {
        Due.is("26 front", x.front(0), rows.length);
        for (int i = 0; i < rows.length; i++) {
            String row = x.frontAt(0, i, 0) + " " + x.frontAt(0, i, 1) + " " + Due.fraction(x);
            Due.is("27 front at " + i, row, rows[i]);
        }
        Rows.due("27 behind", x, "frontAt 0 " + rows.length + " 0 = -1", "frontAt 0 " + rows.length + " 1 = -1");
    }

    private static void frontOfNobody() {
        GuardNets x = Due.with("a");
        front(x, "0 0 1/2");
        x.step(0, 1, 1, 0);
        front(x, "0 0 0/1");
        x.guard(1, 1);
        front(x, "0 0 0/1");
        x.step(0, 1, 1, 1000);
        front(x, "0 0 1/1", "1 1 0/1");
    }

    private static void frontOfGuardsOfNoUse() {
        GuardNets x = Due.with("a|a&b");
        x.guard(0, 0);
        x.guard(65534, 3);
        x.guard(2, 0);
        front(x, "0 0 1/2");
        x.guard(1, 0);
        front(x, "8 0 0/1");
    }

    private static void frontOfLikeSets() {
        GuardNets x = Due.with("a|b");
        x.guard(2, 4);
        x.guard(1, 4);
        x.guard(3, 8);
        x.guard(1, 4);
        front(x, "0 0 3/4", "1 4 1/2", "3 8 0/1");
        x.guard(3, 8);
        front(x, "0 0 3/4", "1 4 1/2", "3 8 0/1");
        x.guard(0, 0);
        front(x, "0 0 3/4", "1 4 1/2", "3 8 0/1");
    }

    private static void frontOfOnePrice() {
        GuardNets x = Due.with("a|b|c");
        x.step(1, 1, 1, 600);
        x.step(2, 1, 1, 700);
        x.guard(1, 5);
        x.guard(2, 5);
        x.guard(4, 5);
        front(x, "0 0 47/50", "4 5 4/5", "6 10 1/2", "7 15 0/1");
        x.guard(4, 4);
        front(x, "0 0 47/50", "8 4 4/5", "10 9 1/2", "11 14 0/1");
        x.guard(7, 0);
        front(x, "16 0 0/1");
    }

    private static void frontOfOneChance() {
        GuardNets x = Due.with("a&b");
        x.guard(2, 3);
        x.guard(1, 2);
        front(x, "0 0 1/4", "2 2 0/1");
        x.guard(1, 1);
        front(x, "0 0 1/4", "4 1 0/1");
        x.guard(1, 1);
        front(x, "0 0 1/4", "4 1 0/1");
    }

    /** Each dearer set leaves less CHANCE, so that all stand in THE FRONT. */
    private static void frontOf1024Sets() {
        GuardNets x = Due.with("a|b|c|d|e|f|g|h|i|j");
        for (int g = 0; g < 10; g++) {
            x.step(g, 1, 1, 1 << g);
            x.guard(1 << g, 1 << g);
        }
        Due.is("26 all", x.front(0), 1024);
        int[] places = {0, 1, 2, 3, 511, 512, 767, 1022, 1023};
        for (int i : places) {
            Due.is("27 set " + i, x.frontAt(0, i, 0), i);
            Due.is("27 price " + i, x.frontAt(0, i, 1), i);
        }
        Due.is("27 the chance of the last", Due.fraction(x), "0/1");
        Rows.due("27", x, "frontAt 0 1022 0 = 1022", "limbs 1 = 1", "limb 0 0 = 1", "limb 1 0 = 1000", "frontAt 0 1024 0 = -1", "frontAt 0 1024 1 = -1");
    }

    private static void frontPricesAtTheirEnds() {
        GuardNets x = Due.with("a|b|c|d|e|f|g|h|i|j");
        for (int g = 0; g < 10; g++) {
            x.step(g, 1, 1, 1000);
            x.guard(1 << g, 1000);
        }
        front(x, "0 0 1/1", "1023 10000 0/1");
    }

    private static void frontAtItsEnds() {
        GuardNets x = Due.with("a|b");
        x.guard(1, 1);
        Rows.due("27", x, "frontAt 0 0 0 = 0", "frontAt 0 1 0 = 1", "frontAt 0 1 1 = 1", "limb 0 0 = 1", "limb 1 0 = 2");
        String[] none = {"frontAt 0 2 0", "frontAt 0 2 1", "frontAt 0 1024 0", "frontAt 0 2147483647 1"};
        for (String row : none) Rows.refused("27 not so many, and the fraction stays", x, row, GuardNets.NONE);
        String[] bad = {"frontAt 0 -1 0", "frontAt 0 -2147483648 1", "frontAt 0 0 -1", "frontAt 0 0 2", "frontAt 9 -1 0", "frontAt 9 0 2",
            "frontAt 10 0 0", "frontAt -1 0 0"};
        for (String row : bad) Rows.refused("27", Houses.common(), row, BAD);
        Rows.refused("27", x, "frontAt 9 0 0", NO);
        Rows.refused("27", x, "frontAt 9 2147483647 1", NO);
    }

    private static void sixPatrolsAreFull() {
        GuardNets x = new GuardNets();
        for (int p = 0; p < 6; p++) Due.is("28 patrol", x.patrol(), p);
        Rows.refused("28", x, "patrol", FULL);
        Rows.due("28", x, "count 4 = 6", "catches 5 15 1000 = 0");
        Rows.refused("28 and what they catch stays", x, "patrol", FULL);
        Rows.refused("29 a seventh", x, "catches 6 0 0", BAD);
    }

    private static void catchesAtTheirEnds() {
        GuardNets x = new GuardNets();
        Rows.refused("29 none is there", x, "catches 0 0 0", BAD);
        Rows.due("29", x, "patrol = 0", "catches 0 0 1000 = 0", "catches 0 0 0 = 1000", "catches 0 15 1 = 0", "catches 0 15 1000 = 1", "catches 0 0 5 = 0");
        Rows.refused("29 the next is not there", x, "catches 1 0 0", BAD);
        Rows.due("29", x, "patrol = 1", "catches 1 0 7 = 0", "catches 1 15 8 = 0", "catches 0 15 1000 = 1000", "catches 0 0 5 = 5");
        int[][] bad = {{-1, 0, 0}, {2, 0, 0}, {0, -1, 0}, {0, 16, 0}, {0, 0, -1}, {0, 0, 1001}, {MAX, 0, 0}, {0, MIN, 0}, {0, 0, MAX}};
        for (int[] a : bad) Rows.refused("29", x, "catches " + a[0] + " " + a[1] + " " + a[2], BAD);
    }

    private static void gameOfNoPatrols() {
        GuardNets x = Due.with("a|b", WaysTest.PAIRS, Houses.WAYS_25);
        for (int net = 0; net < 3; net++) Rows.refused("30 no patrols", x, "game " + net, NO);
        Rows.refused("30 bad ahead of no", x, "game 10", BAD);
        x.patrol();
        Rows.due("30", x, "game 0 = 1", "game 1 = -5", "game 2 = -5", "game 9 = -3");
    }

    private static void game(GuardNets x, int net, String due) {
        Due.is("30 game", x.game(net), 1);
        Due.is("30 value of " + net, Due.fraction(x), due);
    }

    private static void gameOf24Ways() {
        GuardNets x = Due.with(Houses.WAYS_24);
        x.patrol();
        Rows.due("30", x, "ways 0 = 24");
        game(x, 0, "0/1");
        for (int s = 6; s < 10; s++) x.catches(0, s, 300 + s);
        game(x, 0, "306/1");
        x.patrol();
        for (int s = 0; s < 6; s++) x.catches(1, s, 900);
        game(x, 0, "900/1");
    }

    private static void gameOf25WaysIsSpent() {
        GuardNets x = Due.with(Houses.WAYS_25, "[4a,b,c,d,e,f,g,h]", Houses.WAYS_200, Houses.WAYS_201);
        x.patrol();
        x.catches(0, 0, 1000);
        Rows.due("30", x, "ways 0 = 25", "ways 1 = 70", "ways 2 = 200");
        for (int net = 0; net < 4; net++) Rows.refused("30 above 24 ways", x, "game " + net, SPENT);
    }

    private static void gamesAtTheirEnds() {
        GuardNets x = Due.with("a|b|c|d|e|f", "a");
        for (int p = 0; p < 6; p++) x.patrol();
        game(x, 0, "0/1");
        for (int p = 0; p < 5; p++) x.catches(p, p, 1000);
        game(x, 0, "0/1");
        x.catches(5, 5, 1);
        // Five are caught with 1000, one with 1: the mixes that make all alike stand as 1 to 1000.
        game(x, 0, "200/201");
        x.catches(5, 5, 1000);
        game(x, 0, "500/3");
        for (int s = 0; s < 6; s++) x.catches(3, s, 1000);
        game(x, 0, "1000/1");
        for (int p = 0; p < 6; p++) for (int s = 0; s < 6; s++) x.catches(p, s, 1);
        game(x, 0, "1/1");
        x.catches(0, 0, 999);
        game(x, 0, "1/1");
        game(x, 1, "999/1");
    }

    /** The greatest numbers that a table of six by six of 0 and 1000 can lead to. */
    private static void gamesOfTheGreatestNumbers() {
        String[][] tables = {{"100011", "001110", "110010", "101000", "110101", "011011"}, {"101001", "000111", "001110", "011101", "110010", "100100"},
            {"010110", "001011", "010001", "111100", "110010", "100101"}};
        for (String[] table : tables) {
            for (int turned = 0; turned < 2; turned++) {
                for (int less = 0; less < 2; less++) {
                    GuardNets x = Due.with("a|b|c|d|e|f");
                    long[][] rows = new long[6][6];
                    for (int p = 0; p < 6; p++) {
                        x.patrol();
                        for (int s = 0; s < 6; s++) {
                            boolean on = (turned == 0 ? table[p].charAt(s) : table[s].charAt(p)) == '1';
                            rows[p][s] = on ? 1000 - less * (p + s) : less * (p * s % 3);
                            x.catches(p, s, (int) rows[p][s]);
                        }
                    }
                    Ratio due = PlainGame.valueByTurning(rows);
                    game(x, 0, due.up + "/" + due.down);
                }
            }
        }
    }

    private static void gameOfFewWays() {
        GuardNets x = Due.with("a&b&c&d&e&f&g&h&i&j&k&l&m&n&o&p", "p", "a|p");
        x.patrol();
        x.catches(0, 0, 1);
        x.catches(0, 15, 2);
        x.catches(0, 7, 1000);
        game(x, 0, "1000/1");
        game(x, 1, "2/1");
        game(x, 2, "1/1");
        x.catches(0, 7, 0);
        game(x, 0, "2/1");
        x.patrol();
        x.catches(1, 0, 2);
        game(x, 2, "4/3");
    }

    private static void sixInsidersAreFull() {
        GuardNets x = Due.with("a&p");
        Rows.due("31", x, "insider 0 = 0", "insider 65535 = 1", "insider 1 = 2", "insider 32768 = 3", "insider 32767 = 4", "insider 0 = 5", "count 5 = 6");
        Rows.refused("31", x, "insider 0", FULL);
        Rows.refused("31", x, "insider 65535", FULL);
        Rows.refused("31 bad ahead of full", x, "insider 65536", BAD);
        Rows.refused("31 bad ahead of full", x, "insider -1", BAD);
        Rows.due("32", x, "worst 0 1 1 = 2", "worst 0 6 1 = 63", "worst 0 6 0 = 0", "worst 0 7 0 = -2");
    }

    private static void worstOfNoneAndOfAll() {
        GuardNets x = Due.with("a&b|c", "p");
        Rows.due("32 nobody is there", x, "worst 0 0 0 = 1", "worst 0 0 1 = 0", "worst 1 0 0 = 1", "worst 0 1 0 = -2", "worst 0 -1 0 = -2");
        for (int n = 1; n <= 6; n++) {
            x.insider(n == 6 ? 32768 : 1);
            Rows.due("32 all " + n, x, "worst 0 0 1 = 0", "worst 0 " + n + " 1 = " + ((1 << n) - 1), "worst 1 " + n + " 0 = " + (n < 6 ? 1 : 0));
            Rows.refused("32 not so many", x, "worst 0 " + (n + 1) + " 0", BAD);
            Rows.refused("32 bad ahead of no", x, "worst 9 " + (n + 1) + " 0", BAD);
            Rows.refused("32 below 0", x, "worst 0 -1 1", BAD);
        }
    }

    /** Just k of them, though fewer would do; of like ones the least number. */
    private static void worstForK() {
        GuardNets x = Due.with("a&b&c&d");
        x.insider(0);
        x.insider(8);
        x.insider(15);
        x.insider(8);
        x.insider(7);
        Rows.due("32", x, "worst 0 0 0 = 4", "worst 0 1 0 = 0", "worst 0 1 1 = 4", "worst 0 2 1 = 5", "worst 0 3 1 = 7", "worst 0 4 1 = 15", "worst 0 5 1 = 31");
        x = Due.with("a|b&c");
        x.step(0, 5, 1, 500);
        x.insider(2);
        x.insider(4);
        x.insider(2);
        Rows.due("32 of like ones the least", x, "worst 0 1 0 = 1", "worst 0 1 1 = 1", "worst 0 2 0 = 0", "worst 0 2 1 = 3");
        x.step(2, 0, 1, 500);
        Rows.due("32 of like ones the least", x, "worst 0 1 0 = 0", "worst 0 1 1 = 1", "worst 0 2 1 = 3");
    }

    private static void worstAtPrice0() {
        GuardNets x = Due.with("a&b&c&d&e&f&g&h&i&j&k&l&m&n&o&p", "a");
        for (int s = 0; s < 16; s++) x.step(s, 1000, 50, 500);
        x.insider(32768);
        x.insider(32767);
        Rows.due("32", x, "worst 0 0 0 = 16000", "worst 0 1 0 = 1000", "worst 0 1 1 = 2", "worst 0 2 0 = 0", "worst 0 2 1 = 3", "least 0 0 = 16000");
        x.step(0, 0, 1, 0);
        Rows.due("32 all cost nothing", x, "worst 1 0 0 = 0", "worst 1 1 1 = 1", "worst 1 2 1 = 3");
    }

    private static void whatIsRefused() {
        String[] names = {"holds N 0", "leastGuards N", "front N", "frontAt N 0 0", "game N", "worst N 0 0"};
        int[] bad = {-1, 10, MAX, MIN};
        for (String name : names) {
            for (int net : bad) Rows.refused("24 to 32", Houses.spent(), name.replace("N", "" + net), BAD);
            Rows.refused("24 to 32 not there", Houses.spent(), name.replace("N", "9"), NO);
        }
        String[] ahead = {"holds 0 2", "holds 0 -1", "frontAt 1 -1 0", "frontAt 1 0 2", "worst 0 2 0", "worst 0 -1 0", "worst 0 0 2", "worst 0 0 -1",
            "worst 9 2 0", "worst 9 0 2"};
        for (String row : ahead) Rows.refused("24 to 32 bad is ahead", Houses.spent(), row, BAD);
    }
}
