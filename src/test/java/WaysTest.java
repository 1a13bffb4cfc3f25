import java.util.ArrayList;
import java.util.List;
import java.util.Random;

/**
 * Promises 26 to 29 by their very words: all ways of small routes are written down, and the plan is picked from
 * them. Which minutes are good, how deep the water is and how long a leg takes is asked of PlainHours.
 */
public final class WaysTest {
    private static final Checks CHECKS = new Checks();
    private static final int ROUTES = 120;
    private static final int MOST_WAYS = 40000;

    private final Random random;
    private final PlainHours plain = new PlainHours();
    private final List<String> told = new ArrayList<>();
    private Asked asked = null;
    private final int[] portOf = new int[4];
    private int[] sills;
    private char[] kinds;
    private int[] sizes;
    private int draught;
    private boolean[][] good;
    private boolean[][] deep;
    private final List<int[]> ways = new ArrayList<>();

    private WaysTest(int seed) {
        random = new Random(seed);
    }

    private int from(int least, int most) {
        return least + random.nextInt(most - least + 1);
    }

    /** One to ask, with room for some more calls: a new one hears all that has been told. */
    private Asked x() {
        if (asked == null || asked.callsLeft() < 10) {
            asked = new Asked();
            for (String text : told) {
                CHECKS.due(text, Checks.read(asked, text.charAt(0), text.charAt(1) - '0', text.substring(2)) >= 0 ? 1 : 0, 1);
            }
        }
        return asked;
    }

    private void tell(char kind, int port, String text) {
        told.add(kind + Integer.toString(port) + text);
        CHECKS.due(text, plain.tell(kind, port, text) >= 0 ? 1 : 0, 1);
    }

    private void tellAll() {
        for (int p = 0; p < 2; p++) {
            StringBuilder table = new StringBuilder();
            int minute = from(0, 30);
            boolean high = random.nextBoolean();
            for (int i = from(2, 4); i > 0; i--) {
                table.append(table.length() == 0 ? "" : ",").append(high ? "hw" : "lw").append(minute / 60 * 100 + minute % 60);
                table.append(' ').append(high ? from(200, 300) : from(0, 100));
                high = !high;
                minute += from(60, 75);
            }
            tell('p', 0, table.toString());
        }
        for (int s = 0; s < 4; s++) {
            int kind = random.nextInt(4);
            String text = kind == 0 ? "bar " + from(-50, 130) : kind == 1 ? "gate " + from(-50, 100) + " " + from(0, 40) + " " + from(0, 40)
                : kind == 2 ? "flap " + from(0, 150) + " " + from(0, 20) + " 200" : "bridge " + from(550, 800);
            portOf[s] = random.nextInt(2);
            tell('s', portOf[s], text);
        }
        draught = from(1, 100);
        tell('h', 0, draught + " 500 10");
    }

    private void tellRoute() {
        int stops = from(1, 4);
        sills = new int[stops];
        kinds = new char[stops];
        sizes = new int[stops];
        StringBuilder text = new StringBuilder();
        for (int i = 0; i < stops; i++) {
            sills[i] = random.nextInt(4);
            kinds[i] = " !~".charAt(random.nextInt(3));
            sizes[i] = from(-50, 120);
            text.append(i == 0 ? "" : " /" + from(0, 40) + " ").append(sills[i]);
            text.append(kinds[i] == '!' ? "!" : kinds[i] == '~' ? "~" + sizes[i] : "");
        }
        tell('r', 0, text.toString());
        good = new boolean[stops][400];
        deep = new boolean[stops][400];
        for (int i = 0; i < stops; i++) {
            for (int t = 0; t < 400; t++) {
                good[i][t] = plain.good(sills[i], 0, t) == 1;
                deep[i][t] = plain.above(portOf[sills[i]], t, sizes[i] + draught) == 1;
            }
        }
    }

    private void findWays(int i, int arrives, int[] passes) {
        if (i == sills.length) {
            ways.add(passes.clone());
            return;
        }
        boolean floats = true;
        for (int m = arrives; m < 400 && ways.size() <= MOST_WAYS; m++) {
            floats &= m >= 0 && deep[i][m];
            boolean may = m == arrives || kinds[i] == ' ' || kinds[i] == '~' && floats;
            if (may && m >= 0 && good[i][m]) {
                passes[i] = m;
                findWays(i + 1, i + 1 < sills.length ? m + plain.leg(0, 0, i + 1) : 0, passes);
            }
        }
    }

    private static boolean isBetter(int[] one, int[] other) {
        int last = one.length - 1;
        if (one[last] != other[last]) {
            return one[last] < other[last];
        }
        for (int i = last - 1; i >= 0; i--) {
            if (one[i] != other[i]) {
                return one[i] > other[i];
            }
        }
        return false;
    }

    /** The plan from t on; empty if there is no way; null if there are too many. */
    private int[] pick(int t) {
        ways.clear();
        findWays(0, t, new int[sills.length]);
        if (ways.size() > MOST_WAYS) {
            return null;
        }
        int[] best = ways.isEmpty() ? new int[0] : ways.get(0);
        for (int[] way : ways) {
            best = isBetter(way, best) ? way : best;
        }
        return best;
    }

    private void comparePlan(int t, int[] best) {
        int stops = sills.length;
        CHECKS.due("arrive from " + t, x().arrive(0, 0, t), best.length == 0 ? -1 : best[stops - 1]);
        int waits = 0;
        int arrives = t;
        for (int i = 0; i < stops; i++) {
            CHECKS.due("pass from " + t, x().pass(0, 0, t, i), best.length == 0 ? -1 : best[i]);
            if (best.length > 0) {
                waits += best[i] - arrives;
                arrives = best[i] + (i + 1 < stops ? plain.leg(0, 0, i + 1) : 0);
            }
        }
        CHECKS.due("waits from " + t, x().waits(0, 0, t), best.length == 0 ? -1 : waits);
    }

    private void run() {
        tellAll();
        tellRoute();
        int[] earliest = new int[300];
        boolean all = true;
        for (int t = 0; t < 300; t++) {
            int[] best = t % 3 == 0 || all ? pick(t) : null;
            all &= best != null;
            if (best != null) {
                comparePlan(t, best);
                earliest[t] = best.length == 0 ? 9999 : best[best.length - 1];
            }
        }
        for (int by = 0; all && by < 400; by += 7) {
            int latest = 299;
            while (latest >= 0 && earliest[latest] > by) {
                latest--;
            }
            CHECKS.due("start by " + by, x().start(0, 0, by), latest);
        }
    }

    public static void main(String[] args) {
        for (int seed = 0; seed < ROUTES; seed++) {
            new WaysTest(seed).run();
        }
        CHECKS.close();
    }
}
