/** "Refused, changing nothing, the first of: BAD, NO, FULL, SPENT": where two or more of them are at hand. */
public final class RefusalsTest {
    private static final int BAD = GuardNets.BAD, NO = GuardNets.NO, FULL = GuardNets.FULL, SPENT = GuardNets.SPENT;

    public static void main(String[] args) {
        badAheadOfNo();
        badAheadOfFull();
        badAheadOfSpent();
        noAheadOfSpent();
        fullChangesNothing();
        spentChangesNothing();
        noChangesNothing();
        spentAheadOfNone();
        noneChangesNothing();
        whatIsAskedChangesNoMoreThanTheFraction();
        Due.end();
    }

    private static void all(String label, GuardNets x, int answer, String... rows) {
        for (String row : rows) Rows.refused(label, x, row, answer);
    }

    private static void badAheadOfNo() {
        all("bad ahead of no", Houses.common(), BAD, "knot 9 5", "knot 9 -1", "reaches 9 65536", "wayAt 9 -1", "least 9 2", "leastWay 9 -1", "weight 9 16",
            "best 9 16001", "holds 9 8", "frontAt 9 -1 0", "frontAt 9 0 2");
        all("bad ahead of no", Houses.common(), BAD, "worst 9 3 0", "worst 9 0 2", "may 9 1 1", "ask 9 256 0", "reached 9 4", "end 255 601",
            "orderAt 255 0 -1", "differ 2", "from 2");
        all("bad ahead of no patrols", new GuardNets(), BAD, "game 10", "game -1");
    }

    private static void badAheadOfFull() {
        all("bad ahead of full", Houses.full(), BAD, "write 128", "guard 65536 0", "guard 0 1001", "insider -1", "event 0 9983", "event 16 9984", "walk 3 8", "walk 4 0");
        GuardNets x = Houses.full();
        Due.is("a fault of a whole text", x.make(0), 806);
        all("bad ahead of a fault", x, BAD, "make 10", "make -1");
    }

    private static void badAheadOfSpent() {
        all("bad ahead of spent", Houses.spent(), BAD, "wayAt 0 -1", "least 0 2", "leastWay 0 -1", "worst 0 2 0", "worst 0 0 2", "may 0 1 1", "ask 0 -1 0");
        all("bad ahead of spent", Houses.spent(), BAD, "weight 1 16", "frontAt 1 -1 0", "frontAt 1 0 2", "best 1 -1");
        all("bad ahead of spent", Houses.ofTerms(Houses.TWELVE_401), BAD, "best 0 16001", "weight 0 -1");
    }

    private static void noAheadOfSpent() {
        all("no ahead of spent", Houses.spent(), NO, "best 0 0", "best 1 16000");
        GuardNets x = Due.with(WaysTest.PAIRS, Houses.WAYS_25);
        all("no patrols, ahead of spent", x, NO, "game 0", "game 1");
        x.patrol();
        all("spent", x, SPENT, "game 0", "game 1");
    }

    private static void fullChangesNothing() {
        all("full", Houses.full(), FULL, "write 0", "write 127", "guard 0 0", "guard 65535 1000", "patrol", "insider 0", "insider 65535");
        all("full", Houses.full(), FULL, "event 0 9984", "event 15 10000", "walk 0 0", "walk 1 7", "walk 2 0", "walk 3 7");
    }

    private static void spentChangesNothing() {
        all("spent", Houses.spent(), SPENT, "ways 0", "wayAt 0 0", "least 0 0", "least 0 1", "leastWay 0 0", "leastWay 0 1", "game 0", "game 2");
        all("spent", Houses.spent(), SPENT, "worst 0 0 0", "worst 0 1 1", "may 0 0 0", "ask 0 0 0", "chance 1", "weight 1 0", "front 1", "frontAt 1 0 0");
        all("spent", Houses.ofTerms(Houses.TWELVE_401), SPENT, "best 0 0", "best 0 16000", "chance 0");
    }

    private static void noChangesNothing() {
        GuardNets x = Houses.common();
        String[] names = {"knot 9 0", "reaches 9 0", "ways 9", "wayAt 9 0", "least 9 0", "leastWay 9 1", "many 9", "size 9", "chance 9", "weight 9 0", "best 9 0",
            "holds 9 0", "leastGuards 9", "front 9", "frontAt 9 0 0", "game 9", "worst 9 0 0", "may 9 0 0", "ask 9 0 0", "reached 9 0", "end 255 0",
            "orderAt 255 0 0", "differ 1", "from 1"};
        for (int i = 0; i < names.length; i++) {
            if (i % 8 == 0) x = Houses.common();
            Rows.refused("not there", x, names[i], NO);
        }
    }

    private static void spentAheadOfNone() {
        GuardNets x = Houses.spent();
        all("spent ahead of not so many", x, SPENT, "wayAt 0 2147483647", "wayAt 0 256", "frontAt 1 2147483647 0", "frontAt 1 1024 1");
        all("spent ahead of none that parts", x, SPENT, "ask 0 255 0", "may 0 255 0");
    }

    private static void noneChangesNothing() {
        String[] rows = {"part 0 0", "part 2 9", "wayAt 0 2", "limb 0 1", "limb 1 9", "frontAt 0 9 1", "ask 0 0 255", "reached 0 3", "begins 0 600", "end 1 600",
            "orderAt 1 600 0", "orderAt 1 0 1"};
        for (String row : rows) Rows.refused("none", Houses.common(), row, GuardNets.NONE);
    }

    private static void whatIsAskedChangesNoMoreThanTheFraction() {
        GuardNets x = Houses.common();
        long digest = x.digest();
        String[] rows = {"about 0 0", "knot 1 4", "part 6 1", "reaches 0 11", "ways 1", "wayAt 1 0", "least 1 0", "leastWay 1 1", "many 1", "size 1",
            "limbs 0", "limb 0 0", "holds 0 7", "leastGuards 0", "front 0", "worst 0 1 1", "may 0 0 0", "ask 0 0 0", "soon", "reached 0 0",
            "stands 0 0", "begins 0 0", "end 7 0", "orderAt 7 0 2", "differ 0", "count 0", "digest"};
        String fraction = Due.fraction(x);
        for (String row : rows) Rows.call(x, row);
        Due.is("behind what is asked", x.digest(), digest);
        Due.is("the fraction stays", Due.fraction(x), fraction);
        String[] puts = {"chance 1", "weight 0 2", "best 0 6", "frontAt 0 1 0", "game 0"};
        String[] due = {"117/320", "3/16", "9/40", "1/16", "700/1"};
        for (int i = 0; i < puts.length; i++) {
            Rows.call(x, puts[i]);
            Due.is("the fraction behind " + puts[i], Due.fraction(x), due[i]);
            Due.is("the digest behind " + puts[i], x.digest(), digest);
        }
    }
}
