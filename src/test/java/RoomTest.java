import java.lang.management.ManagementFactory;

/**
 * All calls of a run live in one room of some 600,000 objects and 7.3 million fields and elements. An element takes a
 * byte or more and an object sixteen, so a run for which the machine gives out fewer than 7.3 million bytes keeps to
 * both. Here the dearest calls are asked until the object's 512 are used up.
 */
public final class RoomTest {
    private static final Checks CHECKS = new Checks();
    private static final long ROOM_IN_BYTES = 7300000;
    private static final String[] RUNS = {"waits", "pass", "start", "note", "letter", "rise", "minutes", "ship", "port", "route",
        "sill", "longer", "second"};
    private static final com.sun.management.ThreadMXBean THREADS =
        (com.sun.management.ThreadMXBean) ManagementFactory.getThreadMXBean();

    private static long bytes() {
        return THREADS.getThreadAllocatedBytes(Thread.currentThread().getId());
    }

    private static Asked full() {
        Asked x = new Asked();
        Checks.port(x, "hw0100 900,lw0200 0,hw0300 900,lw0400 0,hw0500 900,lw0600 0,hw0700 900,lw0800 0");
        Checks.longer(x, 0, "hw0900 900,lw1000 0,hw1100 900,lw1200 0,hw1300 900,lw1400 0,hw1500 900,lw1600 0");
        Checks.sill(x, 1, "gate 100 20 25");
        Checks.ship(x, "100 100 10");
        Checks.route(x, "0~0/60 0~0/60 0~0/60 0~0/60 0~0/60 0~0/60 0~0/60 0~0");
        return x;
    }

    private static int ask(Asked x, String call, int i) {
        switch (call) {
            case "waits":
                return x.waits(0, 0, 60 + i % 20);
            case "pass":
                return x.pass(0, 0, 60 + i % 20, 0);
            case "start":
                return x.start(0, 0, 900 - i % 20);
            case "note":
                return x.note(0, 0, i % 40);
            case "letter":
                return x.letter(0, 1, i % 90);
            case "rise":
                return x.rise(1, 500, i);
            case "minutes":
                return x.minutes(0, 0);
            case "ship":
                return x.ship();
            case "port":
                return x.port();
            case "route":
                return x.route();
            case "sill":
                return x.sill(0);
            case "longer":
                return x.longer(0);
            default:
                return x.second(0);
        }
    }

    public static void main(String[] args) {
        full();
        for (String call : RUNS) {
            long before = bytes();
            Asked x = full();
            int sum = 0;
            for (int i = 0; x.callsLeft() > 0; i++) {
                sum += ask(x, call, i);
            }
            CHECKS.due("a run of " + call + "() keeps to the room", bytes() - before <= ROOM_IN_BYTES ? 1 : 0, 1);
            CHECKS.due(call + "() was answered", sum != 0 ? 1 : 0, 1);
        }
        CHECKS.close();
    }
}
