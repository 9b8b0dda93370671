import java.lang.management.ManagementFactory;

/** All calls of a run live in one room: so a call makes nothing, and a new object makes little. */
public final class SpaceTest {
    private static final com.sun.management.ThreadMXBean THREADS =
        (com.sun.management.ThreadMXBean) ManagementFactory.getThreadMXBean();

    public static void main(String[] args) {
        long first = made();
        long idle = made() - first;
        GrilleHotel h = new GrilleHotel();
        round(h);
        long before = made();
        round(h);
        long calls = made() - before - idle;
        // A few bytes may be the reading's own; one array of any use would be more.
        Due.is("a round of all calls made " + calls + " bytes", calls < 200, true);
        before = made();
        h = new GrilleHotel();
        long object = made() - before - idle;
        round(h);
        Due.is("a new object made " + object + " bytes", object < 20000, true);
        Due.end("SpaceTest");
    }

    private static long made() {
        return THREADS.getThreadAllocatedBytes(Thread.currentThread().getId());
    }

    private static void round(GrilleHotel h) {
        h.check(0);
        h.guest(0, 100);
        h.guest(4, 100);
        h.grille(2, false);
        h.louvre(5, 2);
        h.feed(0x63313028, 0x313D3129, 0x3B643130, 0x28313D31, 0x29616161);
        h.law(17);
        h.feed(0x353D373B, 0x35403661, 0x61616161, 0x61616161, 0x61616161);
        h.register(7);
        h.keep();
        h.hours(3);
        h.tried(2, 0);
        h.undo();
        h.roomIs(4, 6);
        h.feels(4, 0);
        h.way(0, 3);
        h.odds(0, 24, 3, 0);
        h.fromWhere(20);
        h.meet(0, 4);
        h.cowls();
        h.turn(0, 23, 4);
        h.ways(0, 23);
        h.stockings(0xFFFFFF, 1);
        h.feed(0x05030201, 0x04060000, 0, 0, 0);
        h.sleep(6, 63, 100);
        h.breakfast(100);
        h.ropes(0, 5, 0);
        h.feed(0x782E782E, 0x2E782E78, 0, 0, 0);
        h.taps(8, 1);
        h.feed(0x41424344, 0, 0, 0, 0);
        h.tapped(4);
        h.feed(0x01020004, 0x03000000, 0, 0, 0);
        h.linen(5, 4, 100);
        h.dust(1);
        h.seed(5);
        h.count(8);
    }
}
