import java.lang.management.ManagementFactory;

/**
 * All calls of a run live in one room of 600,000 objects and 7.3 million fields and elements. Here the dearest calls,
 * 512 of each, are held against a small part of it, by the bytes that the machine gave out for them.
 */
public final class RoomTest {
    private static final Checks CHECKS = new Checks();
    private static final com.sun.management.ThreadMXBean THREADS =
        (com.sun.management.ThreadMXBean) ManagementFactory.getThreadMXBean();

    private static long bytes() {
        return THREADS.getThreadAllocatedBytes(Thread.currentThread().getId());
    }

    private static SillHours full() {
        SillHours x = new SillHours();
        Checks.port(x, "hw0100 900,lw0200 0,hw0300 900,lw0400 0,hw0500 900,lw0600 0,hw0700 900,lw0800 0");
        Checks.longer(x, 0, "hw0900 900,lw1000 0,hw1100 900,lw1200 0,hw1300 900,lw1400 0,hw1500 900,lw1600 0");
        Checks.sill(x, 1, "gate 100 20 25");
        Checks.ship(x, "100 100 10");
        Checks.route(x, "0~0/60 0~0/60 0~0/60 0~0/60 0~0/60 0~0/60 0~0/60 0~0");
        return x;
    }

    public static void main(String[] args) {
        full().waits(0, 0, 60);
        long before = bytes();
        SillHours x = new SillHours();
        CHECKS.due("a new object takes at most 40,000 bytes", bytes() - before <= 40000 ? 1 : 0, 1);
        SillHours y = full();
        before = bytes();
        int sum = 0;
        for (int i = 0; i < 512; i++) {
            sum += y.waits(0, 0, 60 + i % 20) + y.start(0, 0, 900 - i % 20) + y.note(0, 0, i % 40) + y.letter(0, 1, i % 90)
                + y.rise(1, 500, i) + y.minutes(0, 0);
        }
        CHECKS.due("questions take no room", bytes() - before <= 10000 ? 1 : 0, 1);
        CHECKS.due("they were answered", sum != 0 ? 1 : 0, 1);
        before = bytes();
        for (int i = 0; i < 512; i++) {
            sum += x.ship() + x.port() + x.route() + y.sill(0) + y.longer(0) + y.second(0);
        }
        CHECKS.due("refused texts take little room", bytes() - before <= 100000 ? 1 : 0, 1);
        CHECKS.close();
    }
}
