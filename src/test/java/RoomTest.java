import com.sun.management.ThreadMXBean;
import java.lang.management.ManagementFactory;

/** All calls of a run live in one room: what they take is counted in bytes, 8 to an element and 24 to an array. */
public final class RoomTest {
    private static final long ROOM = 7300000L * 8;
    private static final ThreadMXBean MEMORY = (ThreadMXBean) ManagementFactory.getThreadMXBean();

    public static void main(String[] args) {
        play(new GuardNets(), 40);
        long start = taken();
        GuardNets x = new GuardNets();
        long made = taken() - start;
        Due.is("a new object takes " + made + " bytes", made < 60000 ? 1 : 0, 1);
        play(x, 60);
        long all = taken() - start;
        System.out.println("made " + made + " bytes, played " + all + " bytes");
        Due.is("a run takes " + all + " bytes", all < ROOM / 10 ? 1 : 0, 1);
        start = taken();
        play(x, 60);
        long more = taken() - start;
        Due.is("played again it takes " + more + " bytes", more < 20000 ? 1 : 0, 1);
        Due.end();
    }

    private static long taken() {
        return MEMORY.getThreadAllocatedBytes(Thread.currentThread().getId());
    }

    private static void play(GuardNets x, int rounds) {
        x.clear();
        x.rest();
        put(x, 0, ChancesTest.SIZE_400);
        put(x, 1, "(a|b)&(c|d)&(e|f)&(g|h|i|j|k)&(l|m|n|o|p)");
        put(x, 2, "a|b|c|d|e|f|g|h|i|j|k|l");
        for (int g = 0; g < 10; g++) x.guard(1 << g | 1 << 15 - g, 1 << g % 9);
        for (int p = 0; p < 6; p++) {
            x.patrol();
            for (int s = 0; s < 16; s++) x.catches(p, s, (p * 271 + s * 97) % 1001);
        }
        for (int i = 0; i < 40; i++) x.event(i * 7 % 16, i);
        for (int i = 0; i < rounds; i++) {
            x.step(i % 16, i, 1 + i % 50, 900);
            x.frontAt(i % 3, 1, 0);
            x.ways(i % 3);
            x.best(2, 5);
            x.weight(0, i % 16);
            x.game(2);
            x.orderAt(127, i, 6);
            x.reached(i % 3, 0);
        }
    }

    private static void put(GuardNets x, int net, String text) {
        x.erase();
        for (int i = 0; i < text.length(); i++) x.write(text.charAt(i));
        x.make(net);
    }
}
