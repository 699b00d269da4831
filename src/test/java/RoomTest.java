import java.lang.management.ManagementFactory;

/** All calls of a run share one room: after the constructor the dearest calls make nothing more. */
public final class RoomTest {
    private static final int CALLS = 512;
    private static final long BYTES_OF_AN_OBJECT = 16_000;
    private static final long BYTES_OF_A_RUN = 4_000;

    public static void main(String[] args) {
        Checks checks = new Checks();
        com.sun.management.ThreadMXBean bean = (com.sun.management.ThreadMXBean) ManagementFactory.getThreadMXBean();
        long id = Thread.currentThread().getId();
        dearCalls(new PodMarks(), CALLS);
        long before = bean.getThreadAllocatedBytes(id);
        PodMarks x = new PodMarks();
        long made = bean.getThreadAllocatedBytes(id);
        dearCalls(x, CALLS);
        long used = bean.getThreadAllocatedBytes(id);
        checks.holds("an object takes " + (made - before) + " bytes", made - before <= BYTES_OF_AN_OBJECT);
        checks.holds("its calls take " + (used - made) + " bytes more", used - made <= BYTES_OF_A_RUN);
        checks.end();
    }

    private static void dearCalls(PodMarks x, int calls) {
        x.places(12);
        x.island(0, 0, 0);
        x.build(0, 77, 64);
        x.build(1, 5, 64);
        for (int i = 0; i < calls; i++) {
            switch (i % 12) {
                case 0: x.heap(0, 4095, 3, -1); break;
                case 1: x.trace(0, i, 3, 0); break;
                case 2: x.inAll(0, i, 3, 0); break;
                case 3: x.framed(0, 3); break;
                case 4: x.lay(2, 0, 1, 6); break;
                case 5: x.join(3, 0, 1); break;
                case 6: x.feed(5, 0x7475726e73L); x.read(4); break;
                case 7: x.likely(0, 5); break;
                case 8: x.good(0, 3); break;
                case 9: x.bound(); break;
                case 10: x.turn(5, 0); break;
                default: x.even(5, 1, 3); break;
            }
        }
        x.places(5);
        for (int w = -1; w <= 5; w++) {
            x.island(3, 0, 1);
            x.most(w, 0);
        }
    }
}
