import java.math.BigInteger;

/** Promises 17 to 22: diagrams, chances. */
public final class ChancesTest {
    static final String SIZE_400 = "a&i|b&h|c&k|d&l|e&m|o&n|g&o|h&p|f&n|i&j|e&f";
    static final String SIZE_401 = "b&i|e&j|c&k|b&l|g&m|f&n|d&o|h&p|c&a|i&h|a&i";
    private static final int MAX = Integer.MAX_VALUE, MIN = Integer.MIN_VALUE;
    private static final int NONE = GuardNets.NONE, BAD = GuardNets.BAD, NO = GuardNets.NO, SPENT = GuardNets.SPENT;

    public static void main(String[] args) {
        promise17();
        promise18();
        promise19();
        promise20();
        promises21And22();
        spent();
        refusals();
        Due.end();
    }

    private static void promise17() {
        String[] texts = {"a", "p", "a&b", "a|b", "[2a,b,c]", "a&(b|c)>d", "a|a&b", "(a|b)&(c|d)", "a&c|b&d",
            "a&i|b&j|c&k|d&l|e&m|f&n|g&o|h&p", "[4a,b,c,d,e,f,g,h]", SIZE_400, SIZE_401};
        int[] due = {1, 1, 2, 2, 4, 4, 1, 4, 6, 510, 20, 400, 401};
        for (int i = 0; i < texts.length; i++) Due.is("17 size " + texts[i], Due.with(texts[i]).size(0), due[i]);
        GuardNets x = Due.with("a&c|b&d", "0|e", "a");
        Due.is("17 size", x.size(1), 7);
        Due.is("17 size", x.size(2), 1);
        Due.is("17 size", x.size(0), 6);
    }

    private static void chance(String text, String due) {
        GuardNets x = Due.with(text);
        Due.is("18 chance", x.chance(0), 1);
        Due.is("18 chance of " + text, Due.fraction(x), due);
    }

    private static void promise18() {
        chance("a", "1/2");
        chance("a|b", "3/4");
        chance("a&b", "1/4");
        chance("a>b", "1/4");
        chance("a&b|a&c", "3/8");
        chance("[2a,b,c]", "1/2");
        chance("[2a,a,b]", "1/2");
        chance("(a|b)&(a|c)", "5/8");
        GuardNets x = Due.with("a&(b|c)>d", "p", "a&b&c&d&e&f&g&h&i&j&k&l&m&n&o&p", "a|b&c");
        x.step(1, 1, 1, 250);
        x.step(2, 1, 1, 900);
        x.chance(0);
        Due.is("18 chance", Due.fraction(x), "37/160");
        x.step(15, 1, 1, 0);
        Due.is("18 chance of none", x.chance(1), 1);
        Due.is("18 chance", Due.fraction(x), "0/1");
        x.step(15, 1, 1, 1000);
        x.chance(1);
        Due.is("18 for sure", Due.fraction(x), "1/1");
        for (int s = 0; s < 16; s++) x.step(s, 1, 1, 999);
        x.chance(2);
        Due.is("18 long", Due.fraction(x), BigInteger.valueOf(999).pow(16) + "/" + BigInteger.TEN.pow(48));
        Due.is("18 limbs", x.limbs(1), 6);
        for (int s = 0; s < 16; s++) x.step(s, 1, 1, 1);
        x.chance(2);
        Due.is("18 long", Due.fraction(x), "1/" + BigInteger.TEN.pow(48));
        for (int s = 0; s < 16; s++) x.step(s, 1, 1, 1000);
        x.chance(2);
        Due.is("18 sure", Due.fraction(x), "1/1");
    }

    private static void promise19() {
        GuardNets x = Due.with("a&(b|c)>d", "a|b", "a|a&b", "a&b&c&d&e&f&g&h&i&j&k&l&m&n&o&p");
        x.step(1, 9, 2, 250);
        x.step(2, 4, 7, 900);
        Due.is("19 weight", x.weight(0, 2), 1);
        Due.is("19 weight", Due.fraction(x), "3/16");
        Due.is("19 weight", x.weight(0, 0), 1);
        Due.is("19 its own chance does not count", Due.fraction(x), "37/80");
        Due.is("19 not in the net", x.weight(0, 7), 0);
        Due.is("19 weight", Due.fraction(x), "0/1");
        x.weight(0, 2);
        Due.is("19 of no use", x.weight(2, 1), 0);
        Due.is("19 weight", Due.fraction(x), "0/1");
        x.weight(0, 2);
        x.step(0, 1, 1, 1000);
        Due.is("19 another is sure", x.weight(1, 1), 0);
        Due.is("19 weight", Due.fraction(x), "0/1");
        Due.is("19 weight", x.weight(1, 0), 1);
        Due.is("19 weight", Due.fraction(x), "3/4");
        for (int s = 0; s < 16; s++) x.step(s, 1, 1, 999);
        x.weight(3, 15);
        Due.is("19 long", Due.fraction(x), BigInteger.valueOf(999).pow(15) + "/" + BigInteger.TEN.pow(45));
        Due.is("19 step", x.weight(0, 16), BAD);
        Due.is("19 step", x.weight(9, -1), BAD);
    }

    private static void best(GuardNets x, int budget, String letters, String fraction) {
        Due.is("20 best for " + budget, x.best(0, budget), Due.set(letters));
        Due.is("20 its chance, " + budget, Due.fraction(x), fraction);
    }

    private static void promise20() {
        GuardNets x = Due.with("a&(b|c)>d");
        x.step(1, 9, 2, 250);
        x.step(2, 4, 7, 900);
        x.step(0, 1, 1, 500);
        best(x, 0, "", "0/1");
        best(x, 5, "", "0/1");
        best(x, 6, "acd", "9/40");
        best(x, 14, "acd", "9/40");
        best(x, 15, "abcd", "37/160");
        best(x, 16000, "abcd", "37/160");
        x.step(2, 9, 7, 250);
        best(x, 11, "abd", "1/16");
        x.step(2, 8, 7, 250);
        best(x, 11, "acd", "1/16");
        x.step(1, 0, 7, 0);
        best(x, 11, "acd", "1/16");
        x = Due.with("a|b");
        x.step(0, 0, 1, 0);
        x.step(1, 0, 1, 1000);
        best(x, 0, "b", "1/1");
        x.step(0, 0, 1, 1000);
        best(x, 0, "a", "1/1");
        Due.is("20 budget", x.best(0, -1), BAD);
        Due.is("20 budget", x.best(9, 16001), BAD);
        Due.is("20 no", x.best(9, 16000), NO);
        x = Due.with("a|b|c|d|e|f|g|h|i|j|k|l", "0|m", "a&i|b&j|c&k|d&l|e&m|f&n|g&o|h&p", "p&o&n&m&l&k&j&i&h&g&f&e");
        best(x, 3, "abc", "7/8");
        best(x, 16000, "abcdefghijkl", "4095/4096");
        Due.is("20 13 steps", x.best(1, 5), NO);
        Due.is("20 no ahead of spent", x.best(2, 5), NO);
        for (int s = 4; s < 16; s++) x.step(s, 1000, 1, 999);
        Due.is("20 high steps", x.best(3, 12000), 0xFFF0);
        Due.is("20 long", Due.fraction(x), BigInteger.valueOf(999).pow(12) + "/" + BigInteger.TEN.pow(36));
        Due.is("20 too dear", x.best(3, 11999), 0);
        Due.is("20 bits", x.best(3, 16000), 0xFFF0);
    }

    private static void promises21And22() {
        GuardNets x = Due.with("a&b&c&d", "a");
        Due.is("21 limbs of 0", x.limbs(0), 0);
        Due.is("22 limb of 0", x.limb(0, 0), NONE);
        Due.is("21 limbs of 1", x.limbs(1), 1);
        Due.is("22 limb of 1", x.limb(1, 0), 1);
        for (int s = 0; s < 4; s++) x.step(s, 1, 1, 999);
        x.chance(0);
        long up = 999L * 999 * 999 * 999, down = 1000000000000L;
        Due.is("21 limbs", x.limbs(0), 2);
        Due.is("21 limbs", x.limbs(1), 2);
        Due.is("22 limb", x.limb(0, 0), up % 1073741824);
        Due.is("22 limb", x.limb(0, 1), up / 1073741824);
        Due.is("22 limb", x.limb(1, 0), down % 1073741824);
        Due.is("22 limb", x.limb(1, 1), down / 1073741824);
        Due.is("22 behind", x.limb(0, 2), NONE);
        Due.is("22 far", x.limb(1, MAX), NONE);
        int[] bad = {-1, 2, MAX, MIN};
        for (int part : bad) {
            Due.is("21 part", x.limbs(part), BAD);
            Due.is("22 part", x.limb(part, 0), BAD);
        }
        Due.is("22 below 0", x.limb(0, -1), BAD);
        x.chance(1);
        Due.is("21 short again", x.limbs(1), 1);
        Due.is("22 short again", x.limb(1, 1), NONE);
        x.chance(9);
        x.weight(1, 16);
        Due.is("21 what is refused changes nothing", Due.fraction(x), "999/1000");
    }

    private static void spent() {
        GuardNets x = Due.with(SIZE_400, SIZE_401, "a");
        x.chance(2);
        x.guard(1, 1);
        Due.is("18 spent", x.chance(1), SPENT);
        Due.is("19 spent", x.weight(1, 0), SPENT);
        Due.is("26 spent", x.front(1), SPENT);
        Due.is("27 spent", x.frontAt(1, 0, 0), SPENT);
        Due.is("18 the fraction stays", Due.fraction(x), "1/2");
        Due.is("25 never spent", x.leastGuards(1), NONE);
        Due.is("18 just 400", x.chance(0), 1);
        Due.is("19 just 400", x.weight(0, 0), 1);
        Due.is("26 just 400", x.front(0), 2);
    }

    private static void refusals() {
        GuardNets x = new GuardNets();
        int[] bad = {-1, 10, MAX, MIN};
        for (int net : bad) {
            Due.is("17 bad", x.size(net), BAD);
            Due.is("18 bad", x.chance(net), BAD);
            Due.is("19 bad", x.weight(net, 0), BAD);
            Due.is("20 bad", x.best(net, 0), BAD);
        }
        Due.is("17 no", x.size(0), NO);
        Due.is("18 no", x.chance(0), NO);
        Due.is("19 no", x.weight(0, 0), NO);
        Due.is("20 no", x.best(0, 0), NO);
    }
}
