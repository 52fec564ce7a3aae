import com.sun.management.ThreadMXBean;
import java.lang.management.ManagementFactory;

/** All calls of a run live in one room: what they take is counted in bytes, 8 to an element and 24 to an array. */
public final class RoomTest {
    private static final long ROOM = 7300000L * 8;
    private static final ThreadMXBean MEMORY = (ThreadMXBean) ManagementFactory.getThreadMXBean();

    public static void main(String[] args) {
        // The machine takes some bytes of its own when code runs for the first time.
        GuardNets first = new GuardNets();
        setUp(first);
        ask(first, 30);
        dearestCalls();
        rowsThatGrowAgainAndAgain();
        Due.end();
    }

    private static void dearestCalls() {
        long start = taken();
        GuardNets x = new GuardNets();
        long made = taken() - start;
        Due.is("a new object takes " + made + " bytes", made < 60000 ? 1 : 0, 1);
        setUp(x);
        ask(x, 10);
        long some = taken() - start;
        ask(x, 20);
        long all = taken() - start;
        System.out.println("made " + made + " bytes, played " + all + " bytes");
        Due.is("a run takes " + all + " bytes", all < ROOM / 10 ? 1 : 0, 1);
        Due.is("asked again it takes " + (all - some) + " bytes", all - some < 20000 ? 1 : 0, 1);
    }

    /** Each NET is asked for in a longer DRILL and with more KNOTS than the last. */
    private static void rowsThatGrowAgainAndAgain() {
        long start = taken();
        GuardNets x = new GuardNets();
        x.write('a');
        for (int n = 0; n < 40; n++) x.event(n % 16, n);
        for (int n = 0; n < 235; n++) {
            x.make(n % 10);
            x.reached(n % 10, 0);
        }
        long all = taken() - start;
        System.out.println("grown " + all + " bytes");
        Due.is("a run that grows takes " + all + " bytes", all < ROOM / 100 ? 1 : 0, 1);
    }

    private static long taken() {
        return MEMORY.getThreadAllocatedBytes(Thread.currentThread().getId());
    }

    /** 266 calls. */
    private static void setUp(GuardNets x) {
        Due.put(x, 0, ChancesTest.SIZE_400);
        Due.put(x, 1, Houses.WAYS_200);
        Due.put(x, 2, "a|b|c|d|e|f|g|h|i|j|k|l");
        for (int g = 0; g < 10; g++) x.guard(1 << g | 1 << 15 - g, 1 << g % 9);
        for (int p = 0; p < 6; p++) {
            x.patrol();
            for (int s = 0; s < 16; s++) x.catches(p, s, (p * 271 + s * 97) % 1001);
        }
        for (int i = 0; i < 40; i++) x.event(i * 7 % 16, i);
    }

    /** Eight calls a round, the dearest. */
    private static void ask(GuardNets x, int rounds) {
        for (int i = 0; i < rounds; i++) {
            x.step(i % 16, i, 1 + i % 50, 900);
            x.frontAt(i % 3, 1, 0);
            x.ways(i % 3);
            x.best(2, 5);
            x.weight(0, i % 16);
            x.game(2);
            x.orderAt(127, i, 6);
            x.reached(i % 3, 0);
        }
    }
}
