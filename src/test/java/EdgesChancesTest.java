import java.math.BigInteger;

/** Promises 17 to 22 at their edges: a method for each sentence of the document that names some. */
public final class EdgesChancesTest {
    private static final int MAX = Integer.MAX_VALUE, MIN = Integer.MIN_VALUE;
    private static final int NONE = GuardNets.NONE, BAD = GuardNets.BAD, NO = GuardNets.NO, SPENT = GuardNets.SPENT;
    private static final int LIMB = 1073741824;

    public static void main(String[] args) {
        sizesAtTheirEnds();
        sizesAreNeverSpent();
        aLargeSize();
        chancesOfSize400();
        chancesOfSize401AreSpent();
        chancesAreNotSpentByWays();
        chancesOfNoneAndForSure();
        chancesOfOneStep();
        chancesOfAllSteps();
        weightsAtTheirEnds();
        aWeightOf0();
        bestAtTheBudget();
        bestOfLikeOnes();
        bestOfNothing();
        bestOf12Steps();
        bestOf13Steps();
        bestOfSize400();
        bestOfSize401IsSpent();
        fractionsInLowestTerms();
        limbsAtTheBase();
        limbsOf0And1();
        limbsAtTheirEnds();
        whatIsRefused();
        Due.end();
    }

    private static void sizesAtTheirEnds() {
        String[] texts = {"a", "p", "[1a]", "a&a", "a|a&p", "a&p", "a|p", "a&b&c&d&e&f&g&h&i&j&k&l&m&n&o&p",
            "a|b|c|d|e|f|g|h|i|j|k|l|m|n|o|p", "[1a,b,c,d,e,f,g,h]", "[8a,b,c,d,e,f,g,h]", "[5a,b,c,d,e,f,g,h]", "(a|p)&(b|o)"};
        int[] due = {1, 1, 1, 1, 1, 2, 2, 16, 16, 8, 8, 20, 6};
        for (int i = 0; i < texts.length; i++) Due.is("17 size of " + texts[i], Due.with(texts[i]).size(0), due[i]);
    }

    private static void sizesAreNeverSpent() {
        GuardNets x = Due.with(ChancesTest.SIZE_400, ChancesTest.SIZE_401, "a&i|b&j|c&k|d&l|e&m|f&n|g&o|h&p", WaysTest.PAIRS, Houses.WAYS_201);
        Rows.due("17", x, "size 0 = 400", "size 1 = 401", "size 2 = 510", "size 3 = 16", "ways 3 = -5", "ways 4 = -5", "size 4 = 17", "size 1 = 401");
        Due.is("17 of 12 steps", Houses.ofTerms(Houses.TWELVE_400).size(0), 400);
        Due.is("17 of 12 steps", Houses.ofTerms(Houses.TWELVE_401).size(0), 401);
    }

    private static void aLargeSize() {
        GuardNets x = Due.with("a&k&n&p|b&k&n&o|c&l&m&p|d&k&l&p|e&k&o&p|f&k&m&p|g&k&l&m|h&k&m&o|i&k&l&o|j&k&m&n", "a&p|b&o|c&n|d&m|e&l|f&k|g&j|h&i", "a|b");
        Rows.due("17", x, "size 0 = 2656", "ways 0 = 10", "size 1 = 510", "size 2 = 2", "size 0 = 2656", "chance 0 = -5", "chance 2 = 1", "front 0 = -5");
        // 43 terms of three to five STEPS.
        x = Houses.ofTerms(new String[] {"abdgm ceknp bdlmo dijln bjmp cfop afko defn", "ahil adegl ciln bjno adhlm aeijl begjn bfgm",
            "egj jmn abimo ghip bcmp bcelp cfjno dfkop bdlo", "bcgjk dik hklo fgiko cejo bcfho befop cmp acln"});
        Rows.due("17", x, "knot 0 4 = 65535", "size 0 = 1150", "ways 0 = 31");
    }

    private static void chancesOfSize400() {
        GuardNets x = Due.with(ChancesTest.SIZE_400);
        x.guard(1, 1);
        Rows.due("18 400 are not above", x, "chance 0 = 1", "weight 0 0 = 1", "front 0 = 2", "frontAt 0 0 1 = 0", "frontAt 0 2 0 = -1", "best 0 0 = -3");
    }

    private static void chancesOfSize401AreSpent() {
        GuardNets x = Due.with(ChancesTest.SIZE_401, "a|b");
        x.guard(1, 1);
        x.chance(1);
        String[] spent = {"chance 0", "weight 0 0", "weight 0 15", "front 0", "frontAt 0 0 0", "frontAt 0 2147483647 1"};
        for (String row : spent) Rows.refused("18 401", x, row, SPENT);
        Rows.due("17 others are not", x, "size 0 = 401", "leastGuards 0 = -1", "holds 0 1 = 0", "many 0 = 1", "chance 1 = 1");
    }

    private static void chancesAreNotSpentByWays() {
        GuardNets x = Due.with(WaysTest.PAIRS);
        x.guard(3, 1);
        Rows.due("18", x, "ways 0 = -5", "chance 0 = 1", "limb 0 0 = 6561", "limb 1 0 = 65536", "weight 0 15 = 1", "front 0 = 2", "frontAt 0 1 0 = 1",
            "limbs 1 = 1", "limb 1 0 = 1", "leastGuards 0 = 1");
    }

    private static void chance(GuardNets x, int net, String due) {
        Due.is("18 chance " + net, x.chance(net), 1);
        Due.is("18 chance of " + net, Due.fraction(x), due);
    }

    private static void chancesOfNoneAndForSure() {
        GuardNets x = Due.with("a|b", "a&b", "[2a,b,c]", "a>b>c");
        int[] odds = {0, 1000};
        for (int a : odds) {
            for (int b : odds) {
                for (int c : odds) {
                    x.step(0, 1, 1, a);
                    x.step(1, 1, 1, b);
                    x.step(2, 1, 1, c);
                    chance(x, 0, a + b > 0 ? "1/1" : "0/1");
                    chance(x, 1, a + b > 1000 ? "1/1" : "0/1");
                    chance(x, 2, a + b + c > 1000 ? "1/1" : "0/1");
                    chance(x, 3, a + b + c > 2000 ? "1/1" : "0/1");
                }
            }
        }
    }

    private static void chancesOfOneStep() {
        GuardNets x = Due.with("p");
        int[] odds = {0, 1, 2, 5, 8, 125, 200, 499, 500, 501, 625, 996, 998, 999, 1000};
        String[] due = {"0/1", "1/1000", "1/500", "1/200", "1/125", "1/8", "1/5", "499/1000", "1/2", "501/1000", "5/8", "249/250", "499/500", "999/1000", "1/1"};
        for (int i = 0; i < odds.length; i++) {
            x.step(15, 1, 1, odds[i]);
            chance(x, 0, due[i]);
        }
    }

    private static void chancesOfAllSteps() {
        GuardNets x = Due.with("a&b&c&d&e&f&g&h&i&j&k&l&m&n&o&p", "a|b|c|d|e|f|g|h|i|j|k|l|m|n|o|p");
        BigInteger down = BigInteger.TEN.pow(48);
        for (int s = 0; s < 16; s++) x.step(s, 1, 1, 1);
        chance(x, 0, "1/" + down);
        chance(x, 1, down.subtract(BigInteger.valueOf(999).pow(16)) + "/" + down);
        for (int s = 0; s < 16; s++) x.step(s, 1, 1, 999);
        chance(x, 0, BigInteger.valueOf(999).pow(16) + "/" + down);
        chance(x, 1, down.subtract(BigInteger.ONE) + "/" + down);
        x.step(7, 1, 1, 0);
        chance(x, 0, "0/1");
        x.step(8, 1, 1, 1000);
        chance(x, 1, "1/1");
    }

    private static void weightsAtTheirEnds() {
        GuardNets x = Due.with("a", "a&p", "a|p");
        int[] odds = {0, 1, 500, 1000};
        for (int own : odds) {
            x.step(0, 1, 1, own);
            Due.is("19 weight of all there is", x.weight(0, 0), 1);
            Due.is("19 its own chance does not count", Due.fraction(x), "1/1");
        }
        x.step(15, 1, 1, 1000);
        Due.is("19 weight", x.weight(1, 0), 1);
        Due.is("19 the other is sure", Due.fraction(x), "1/1");
        x.step(15, 1, 1, 0);
        Due.is("19 weight", x.weight(2, 0), 1);
        Due.is("19 the other never comes", Due.fraction(x), "1/1");
        x.step(15, 1, 1, 1);
        x.weight(1, 0);
        Due.is("19 the least", Due.fraction(x), "1/1000");
        x.step(0, 1, 1, 999);
        Due.is("19 the last step", x.weight(2, 15), 1);
        Due.is("19 the last step", Due.fraction(x), "1/1000");
    }

    private static void aWeightOf0() {
        String[] texts = {"a", "a&b", "a|b", "a|a&c"};
        int[] steps = {15, 0, 0, 2};
        for (int i = 0; i < 4; i++) {
            GuardNets x = Due.with(texts[i]);
            x.step(1, 1, 1, i == 1 ? 0 : 1000);
            x.chance(0);
            Due.is("19 weight of 0 in " + texts[i], x.weight(0, steps[i]), 0);
            Due.is("19 the fraction is 0", Due.fraction(x), "0/1");
        }
    }

    private static void best(GuardNets x, int budget, int set, String fraction) {
        Due.is("20 best for " + budget, x.best(0, budget), set);
        Due.is("20 its chance, " + budget, Due.fraction(x), fraction);
    }

    private static void bestAtTheBudget() {
        GuardNets x = Due.with("a&p");
        x.step(0, 1000, 1, 500);
        x.step(15, 1000, 1, 500);
        best(x, 0, 0, "0/1");
        best(x, 1999, 0, "0/1");
        best(x, 2000, 32769, "1/4");
        best(x, 2001, 32769, "1/4");
        best(x, 16000, 32769, "1/4");
        x.step(0, 0, 1, 1000);
        x.step(15, 0, 1, 1000);
        best(x, 0, 32769, "1/1");
        x = Due.with("a|b|c");
        for (int s = 0; s < 3; s++) x.step(s, 10, 1, 500);
        int[] budgets = {9, 10, 19, 20, 29, 30};
        int[] sets = {0, 1, 1, 3, 3, 7};
        String[] due = {"0/1", "1/2", "1/2", "3/4", "3/4", "7/8"};
        for (int i = 0; i < 6; i++) best(x, budgets[i], sets[i], due[i]);
    }

    private static void bestOfLikeOnes() {
        GuardNets x = Due.with("a&b|c&d|p");
        x.step(15, 5, 1, 0);
        x.step(0, 3, 1, 500);
        best(x, 3, 12, "1/4");
        best(x, 4, 12, "1/4");
        x.step(3, 3, 1, 500);
        best(x, 4, 3, "1/4");
        x.step(1, 2, 1, 500);
        best(x, 5, 12, "1/4");
        x.step(2, 2, 1, 500);
        best(x, 5, 3, "1/4");
        x.step(15, 5, 1, 250);
        best(x, 5, 3, "1/4");
        x.step(15, 4, 1, 250);
        best(x, 5, 32768, "1/4");
        x = Due.with("a|a&b|c&d");
        x.step(1, 0, 1, 500);
        x.step(2, 0, 1, 0);
        x.step(3, 0, 1, 500);
        best(x, 16000, 1, "1/2");
    }

    private static void bestOfNothing() {
        GuardNets x = Due.with("a|b");
        x.step(0, 0, 1, 0);
        x.step(1, 1000, 1, 0);
        best(x, 16000, 0, "0/1");
        best(x, 0, 0, "0/1");
    }

    private static void bestOf12Steps() {
        GuardNets x = Due.with("e&f&g&h&i&j&k&l&m&n&o&p");
        for (int s = 4; s < 16; s++) x.step(s, 1000, 1, 1);
        best(x, 11999, 0, "0/1");
        best(x, 12000, 65520, "1/" + BigInteger.TEN.pow(36));
        best(x, 16000, 65520, "1/" + BigInteger.TEN.pow(36));
    }

    private static void bestOf13Steps() {
        GuardNets x = Due.with("a|b|c|d|e|f|g|h|i|j|k|l|m", "a|a&b&c&d&e&f&g&h&i&j&k&l&m", WaysTest.PAIRS, ChancesTest.SIZE_401);
        for (int net = 0; net < 4; net++) Rows.refused("20 above 12 steps", x, "best " + net + " 16000", NO);
        Rows.refused("20 bad ahead of no", x, "best 0 16001", BAD);
        Rows.refused("20 bad ahead of no", x, "best 0 -1", BAD);
    }

    private static void bestOfSize400() {
        GuardNets x = Houses.ofTerms(Houses.TWELVE_400);
        Rows.due("20", x, "size 0 = 400", "best 0 2 = 0", "best 0 3 = 776", "limb 0 0 = 1", "limb 1 0 = 8", "best 0 12 = 4095", "chance 0 = 1");
    }

    private static void bestOfSize401IsSpent() {
        GuardNets x = Houses.ofTerms(Houses.TWELVE_401);
        Rows.due("20 12 steps", x, "knot 0 4 = 4095", "size 0 = 401");
        Rows.refused("20 401", x, "best 0 0", SPENT);
        Rows.refused("20 401", x, "best 0 16000", SPENT);
        Rows.refused("20 bad ahead of spent", x, "best 0 16001", BAD);
        Rows.refused("18 401", x, "chance 0", SPENT);
    }

    private static void fractionsInLowestTerms() {
        GuardNets x = Due.with("a&b", "a|b");
        x.step(0, 1, 1, 8);
        x.step(1, 1, 1, 125);
        chance(x, 0, "1/1000");
        x.step(0, 1, 1, 64);
        x.step(1, 1, 1, 625);
        chance(x, 0, "1/25");
        chance(x, 1, "649/1000");
        x.step(0, 1, 1, 512);
        x.step(1, 1, 1, 375);
        chance(x, 0, "24/125");
        chance(x, 1, "139/200");
        x.step(0, 1, 1, 1000);
        x.step(1, 1, 1, 1);
        chance(x, 0, "1/1000");
        chance(x, 1, "1/1");
    }

    /** A limb of a number is below the base, and one of 0 ahead of others is told. */
    private static void limbsAtTheBase() {
        GuardNets x = Due.with("a&b&c&d&e&f&g&h&i&j", "a|b|c|d|e|f|g|h|i|j");
        for (int s = 0; s < 10; s++) x.step(s, 1, 1, 125);
        Rows.due("21 1 by the base", x, "chance 0 = 1", "limbs 0 = 1", "limb 0 0 = 1", "limbs 1 = 2", "limb 1 0 = 0", "limb 1 1 = 1", "limb 1 2 = -1");
        for (int s = 0; s < 10; s++) x.step(s, 1, 1, 875);
        Rows.due("21 the base less 1", x, "chance 1 = 1", "limbs 0 = 1", "limb 0 0 = " + (LIMB - 1), "limb 0 1 = -1", "limbs 1 = 2", "limb 1 0 = 0",
            "limb 1 1 = 1");
        x.step(9, 1, 1, 750);
        Rows.due("21 half the base", x, "chance 1 = 1", "limbs 0 = 1", "limbs 1 = 1", "limb 1 0 = " + LIMB / 2, "limb 0 0 = " + (LIMB / 2 - 1));
    }

    private static void limbsOf0And1() {
        GuardNets x = Due.with("a");
        x.step(0, 1, 1, 0);
        x.chance(0);
        Rows.due("21 0 by 1", x, "limbs 1 = 1", "limb 1 0 = 1", "limb 1 1 = -1", "limb 0 1 = -1");
        // The document leaves it open whether 0 has a limb: here no number's last limb is 0.
        Rows.due("21 0", x, "limbs 0 = 0", "limb 0 0 = -1");
        x.step(0, 1, 1, 1000);
        x.chance(0);
        Rows.due("21 1 by 1", x, "limbs 0 = 1", "limb 0 0 = 1", "limb 0 1 = -1", "limbs 1 = 1", "limb 1 0 = 1", "limb 1 1 = -1");
    }

    private static void limbsAtTheirEnds() {
        GuardNets x = Due.with("a&b&c&d&e&f&g&h&i&j&k&l&m&n&o&p");
        for (int s = 0; s < 16; s++) x.step(s, 1, 1, 999);
        x.chance(0);
        BigInteger[] parts = {BigInteger.valueOf(999).pow(16), BigInteger.TEN.pow(48)};
        for (int part = 0; part < 2; part++) {
            Due.is("21 limbs", x.limbs(part), 6);
            for (int i = 0; i < 6; i++) {
                Due.is("22 limb " + i, x.limb(part, i), parts[part].shiftRight(30 * i).intValue() & LIMB - 1);
            }
            Rows.due("22", x, "limb " + part + " 6 = -1", "limb " + part + " 7 = -1", "limb " + part + " 2147483647 = -1", "limb " + part + " -1 = -2",
                "limb " + part + " -2147483648 = -2");
        }
        int[] bad = {-1, 2, MAX, MIN};
        for (int part : bad) {
            Due.is("21 part", x.limbs(part), BAD);
            Due.is("22 part", x.limb(part, 0), BAD);
            Due.is("22 part ahead of none", x.limb(part, MAX), BAD);
        }
        Due.is("22 behind", x.limb(0, 6), NONE);
    }

    private static void whatIsRefused() {
        String[] names = {"size N", "chance N", "weight N 0", "best N 0"};
        int[] bad = {-1, 10, MAX, MIN};
        GuardNets x = Houses.common();
        for (String name : names) {
            for (int net : bad) Rows.refused("17 to 20", Houses.spent(), name.replace("N", "" + net), BAD);
            Rows.refused("17 to 20 not there", x, name.replace("N", "9"), NO);
        }
        int[] steps = {-1, 16, MAX, MIN};
        x = Houses.spent();
        for (int step : steps) {
            Rows.refused("19 step", x, "weight 0 " + step, BAD);
            Rows.refused("19 bad ahead of no", Houses.spent(), "weight 9 " + step, BAD);
            Rows.refused("19 bad ahead of spent", Houses.spent(), "weight 1 " + step, BAD);
        }
        x = Houses.common();
        int[] budgets = {-1, 16001, MAX, MIN};
        for (int budget : budgets) {
            Rows.refused("20 budget", x, "best 0 " + budget, BAD);
            Rows.refused("20 bad ahead of no", Houses.spent(), "best 9 " + budget, BAD);
        }
    }
}
