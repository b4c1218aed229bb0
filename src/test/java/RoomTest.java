import com.sun.management.ThreadMXBean;
import java.lang.management.ManagementFactory;
import java.util.Random;

/** All calls of one run live in one room of some 7.3 million fields and elements: the dearest run keeps to it. */
public final class RoomTest {
    /** Most elements are ints. */
    private static final long ROOM = 4 * 7_300_000L;

    private RoomTest() {
    }

    public static void main(String[] args) {
        ThreadMXBean threads = (ThreadMXBean) ManagementFactory.getThreadMXBean();
        long id = Thread.currentThread().getId();
        run(new GearDesk());
        threads.getThreadAllocatedBytes(id);
        long start = threads.getThreadAllocatedBytes(id);
        GearDesk desk = new GearDesk();
        long made = threads.getThreadAllocatedBytes(id);
        int calls = run(desk);
        long end = threads.getThreadAllocatedBytes(id);
        System.out.println("a desk takes " + (made - start) + " bytes, " + calls + " calls " + (end - made));
        Due.same("a desk and a full run of calls fit the room", Due.bit(end - start <= ROOM), 1);
        Due.end("RoomTest");
    }

    private static int run(GearDesk x) {
        Random random = new Random(3);
        int calls = 0;
        for (int g = 0; g < 60; g++) {
            x.gear(g % 2 == 0 ? 800 + random.nextInt(200) : 400 + random.nextInt(100));
            calls++;
        }
        x.crank(20);
        for (int g = 0; g < 59; g++) {
            if (g % 3 == 2) {
                x.planet(g + 1, g, g - 1);
            } else {
                x.mesh(g, g + 1);
            }
            calls++;
        }
        x.remove(40);
        for (; calls + 9 <= 512; calls += 9) {
            x.want(1 + random.nextInt(1000), 1 + random.nextInt(1000), 3, 8, 67);
            x.search(1000000);
            x.error(1);
            x.solve();
            x.dial(0, 20, 100000);
            x.dial(1, 19, 60);
            x.position(1, 7, 9);
            x.meet(0, 1);
            x.back();
        }
        return calls;
    }
}
