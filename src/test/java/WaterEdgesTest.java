/** The boundary cases of 3 WATER and of promises 15 to 18, each sentence of the document by itself. */
public final class WaterEdgesTest {
    private static final Checks CHECKS = new Checks();
    private static final int LEAST = Integer.MIN_VALUE;
    private static final int MOST = Integer.MAX_VALUE;
    private static final int[] NO_PORTS = {-1, 1, 8, LEAST, MOST};

    private static Asked with(String table) {
        Asked x = new Asked();
        CHECKS.due("port " + table, Checks.port(x, table), 0);
        return x;
    }

    private static void water(Asked x, int t, int due) {
        CHECKS.taken("water(0, " + t + ")", x, x.water(0, t), due);
    }

    private static void firstAndLastMinutes() {
        CHECKS.sentence("The MINUTES of a PORT are all from its first TURN's to its last one's.");
        Asked x = with("hw0100 1200,lw0700 0,hw1300 600");
        water(x, 60, 1200);
        water(x, 780, 600);
        for (int t : new int[] {59, 781, 0, -1, 99999, LEAST, MOST}) {
            CHECKS.refused("water(0, " + t + ")", x, x.water(0, t), 1);
            CHECKS.refused("above(0, " + t + ", 0)", x, x.above(0, t, 0), 1);
        }
        x = with("hw0100 5");
        water(x, 60, 5);
        CHECKS.refused("water(0, 59) of one turn", x, x.water(0, 59), 1);
        CHECKS.refused("water(0, 61) of one turn", x, x.water(0, 61), 1);
        x = with("lw2359 -5,hw0059 5");
        water(x, 1439, -5);
        water(x, 1499, 5);
        CHECKS.refused("water(0, 59)", x, x.water(0, 59), 1);
        CHECKS.refused("water(0, 1438)", x, x.water(0, 1438), 1);
        CHECKS.refused("water(0, 1500)", x, x.water(0, 1500), 1);
    }

    private static void heightsOfTurns() {
        CHECKS.sentence("The HEIGHT at a TURN's MINUTE is the TURN's.");
        Asked x = with("lw0000 -500,hw0101 1500,lw0202 -499,hw0302 0,lw1622 -1");
        water(x, 0, -500);
        water(x, 61, 1500);
        water(x, 122, -499);
        water(x, 182, 0);
        water(x, 982, -1);
    }

    /** 720 in 60 minutes, so that each minute of the first sixth is 6; 732 in 61, no multiple of six. */
    private static void sixths() {
        CHECKS.sentence("g + (h - g) * (A * D + B * r) / (12 * D), where r is 6 * (t - s) % D, and for 6 * (t - s) / D (rounded down: 0, 1, "
            + ".. 5) A is 0, 1, 3, 6, 9, 11 and B is 1, 2, 3, 3, 2, 1");
        int[] minutes = {0, 1, 9, 10, 11, 19, 20, 21, 29, 30, 31, 39, 40, 41, 49, 50, 51, 59, 60};
        int[] heights = {0, 6, 54, 60, 72, 168, 180, 198, 342, 360, 378, 522, 540, 552, 648, 660, 666, 714, 720};
        Asked x = with("lw0100 -100,hw0200 620");
        Asked y = with("hw0100 620,lw0200 -100");
        for (int i = 0; i < minutes.length; i++) {
            water(x, 60 + minutes[i], -100 + heights[i]);
            water(y, 60 + minutes[i], 620 - heights[i]);
        }
        int[] oddMinutes = {0, 1, 10, 11, 20, 21, 30, 31, 40, 41, 50, 51, 60, 61};
        int[] oddHeights = {0, 6, 60, 71, 179, 195, 357, 375, 537, 553, 661, 672, 726, 732};
        x = with("lw0100 -100,hw0201 632");
        y = with("hw0100 632,lw0201 -100");
        for (int i = 0; i < oddMinutes.length; i++) {
            water(x, 60 + oddMinutes[i], -100 + oddHeights[i]);
            water(y, 60 + oddMinutes[i], 632 - oddHeights[i]);
        }
        // 2000 in 800 minutes, the widest of both: a third of 800 is 266 and 2 / 3
        x = with("lw0000 -500,hw1320 1500");
        water(x, 1, -499);
        water(x, 133, -334);
        water(x, 134, -332);
        water(x, 266, -2);
        water(x, 267, 1);
        water(x, 400, 500);
        water(x, 799, 1498);
        water(x, 800, 1500);
    }

    private static void nothingRounded() {
        CHECKS.sentence("nothing rounded");
        // 1 in 600 minutes: between the turns the height is above 0 and below 1
        Asked x = with("lw0000 0,hw1000 1,lw2000 0");
        for (int t : new int[] {1, 300, 599, 601, 1199}) {
            CHECKS.due("above(0, " + t + ", 0)", x.above(0, t, 0), 1);
            CHECKS.due("above(0, " + t + ", 1)", x.above(0, t, 1), 0);
        }
        CHECKS.due("above(0, 600, 1)", x.above(0, 600, 1), 1);
        CHECKS.due("rise to 1", x.rise(0, 1, 0), 600);
        CHECKS.due("rise to 1", x.rise(0, 1, 601), -1);
        CHECKS.due("ebb below 1", x.ebb(0, 1, 600), 601);
        CHECKS.due("ebb below 0", x.ebb(0, 0, 0), -1);
        x = with("hw0000 -1,lw1000 -2");
        CHECKS.due("above(0, 1, -1)", x.above(0, 1, -1), 0);
        CHECKS.due("above(0, 1, -2)", x.above(0, 1, -2), 1);
        CHECKS.due("above(0, 599, -1)", x.above(0, 599, -1), 0);
        CHECKS.due("ebb below -1", x.ebb(0, -1, 0), 1);
        CHECKS.due("ebb below -2", x.ebb(0, -2, 0), -1);
        CHECKS.due("rise to -2", x.rise(0, -2, 599), 599);
        CHECKS.due("rise to -1", x.rise(0, -1, 1), -1);
        CHECKS.sentence("water(): the greatest whole number that is not above it");
        water(x, 0, -1);
        water(x, 1, -2);
        water(x, 599, -2);
        water(x, 600, -2);
        x = with("lw0000 -1,hw1000 1");
        water(x, 1, -1);
        water(x, 299, -1);
        water(x, 300, 0);
        water(x, 301, 0);
        water(x, 599, 0);
        water(x, 600, 1);
    }

    private static void waterAsked() {
        CHECKS.sentence("water(): 1: also if t is no MINUTE of the PORT.");
        Asked x = with("hw0100 1200,lw0700 0");
        for (int port : NO_PORTS) {
            CHECKS.refused("water(" + port + ", 60)", x, x.water(port, 60), 1);
        }
        CHECKS.refused("water(0, 59)", x, x.water(0, 59), 1);
        CHECKS.refused("water(0, 421)", x, x.water(0, 421), 1);
        CHECKS.sentence("above(): 1 if the HEIGHT of a PORT at t is h or more, else 0.");
        CHECKS.taken("above(0, 60, 1200)", x, x.above(0, 60, 1200), 1);
        CHECKS.taken("above(0, 60, 1201)", x, x.above(0, 60, 1201), 0);
        CHECKS.taken("above(0, 240, 600)", x, x.above(0, 240, 600), 1);
        CHECKS.taken("above(0, 240, 601)", x, x.above(0, 240, 601), 0);
        CHECKS.taken("above(0, 420, 0)", x, x.above(0, 420, 0), 1);
        CHECKS.taken("above(0, 420, 1)", x, x.above(0, 420, 1), 0);
        CHECKS.sentence("above(): 1: also if t is no MINUTE of the PORT; 3: h is not from -9999 to 9999.");
        CHECKS.taken("above(0, 60, -9999)", x, x.above(0, 60, -9999), 1);
        CHECKS.taken("above(0, 60, 9999)", x, x.above(0, 60, 9999), 0);
        for (int h : new int[] {-10000, 10000, LEAST, MOST}) {
            CHECKS.refused("above(0, 60, " + h + ")", x, x.above(0, 60, h), 3);
            CHECKS.refused("1 ahead of 3: above(0, 59, " + h + ")", x, x.above(0, 59, h), 1);
            CHECKS.refused("1 ahead of 3: above(1, 60, " + h + ")", x, x.above(1, 60, h), 1);
        }
        for (int port : NO_PORTS) {
            CHECKS.refused("above(" + port + ", 60, 0)", x, x.above(port, 60, 0), 1);
        }
    }

    private static void rises() {
        CHECKS.sentence("rise(): The first MINUTE of a PORT that is t or more (t may be any number) at which the HEIGHT is h or more");
        Asked x = with("hw0100 1200,lw0700 0,hw1300 1200");
        CHECKS.taken("rise", x, x.rise(0, 1200, LEAST), 60);
        CHECKS.taken("rise", x, x.rise(0, 1200, -1), 60);
        CHECKS.taken("rise", x, x.rise(0, 1200, 59), 60);
        CHECKS.taken("rise", x, x.rise(0, 1200, 60), 60);
        CHECKS.taken("rise", x, x.rise(0, 1200, 61), 780);
        CHECKS.taken("rise", x, x.rise(0, 1200, 780), 780);
        CHECKS.taken("rise", x, x.rise(0, 600, 240), 240);
        CHECKS.taken("rise", x, x.rise(0, 600, 241), 600);
        CHECKS.taken("rise", x, x.rise(0, 601, 240), 601);
        CHECKS.taken("rise", x, x.rise(0, 0, 420), 420);
        CHECKS.taken("rise", x, x.rise(0, 1, 420), 421);
        CHECKS.taken("rise", x, x.rise(0, 2, 420), 422);
        CHECKS.taken("rise", x, x.rise(0, -9999, LEAST), 60);
        CHECKS.taken("rise", x, x.rise(0, -9999, 300), 300);
        CHECKS.sentence("rise(): -1: there is none.");
        CHECKS.taken("rise", x, x.rise(0, 1200, 781), -1);
        CHECKS.taken("rise", x, x.rise(0, -9999, 781), -1);
        CHECKS.taken("rise", x, x.rise(0, -9999, MOST), -1);
        CHECKS.taken("rise", x, x.rise(0, 1201, LEAST), -1);
        CHECKS.taken("rise", x, x.rise(0, 9999, 0), -1);
        CHECKS.sentence("rise(): 1: no such PORT; 3: as above().");
        for (int h : new int[] {-10000, 10000, LEAST, MOST}) {
            CHECKS.refused("rise(0, " + h + ", 60)", x, x.rise(0, h, 60), 3);
            CHECKS.refused("rise(0, " + h + ", -1)", x, x.rise(0, h, -1), 3);
            CHECKS.refused("1 ahead of 3: rise(1, " + h + ", 60)", x, x.rise(1, h, 60), 1);
        }
        for (int port : NO_PORTS) {
            CHECKS.refused("rise(" + port + ", 0, 60)", x, x.rise(port, 0, 60), 1);
        }
    }

    private static void ebbs() {
        CHECKS.sentence("ebb(): The first MINUTE of a PORT that is t or more (t may be any number) at which the HEIGHT is less than h");
        Asked x = with("lw0100 0,hw0700 1200,lw1300 0");
        CHECKS.taken("ebb", x, x.ebb(0, 1, LEAST), 60);
        CHECKS.taken("ebb", x, x.ebb(0, 1, -1), 60);
        CHECKS.taken("ebb", x, x.ebb(0, 1, 59), 60);
        CHECKS.taken("ebb", x, x.ebb(0, 1, 60), 60);
        CHECKS.taken("ebb", x, x.ebb(0, 1, 61), 780);
        CHECKS.taken("ebb", x, x.ebb(0, 2, 61), 61);
        CHECKS.taken("ebb", x, x.ebb(0, 600, 239), 239);
        CHECKS.taken("ebb", x, x.ebb(0, 600, 240), 601);
        CHECKS.taken("ebb", x, x.ebb(0, 601, 240), 240);
        CHECKS.taken("ebb", x, x.ebb(0, 1200, 420), 421);
        CHECKS.taken("ebb", x, x.ebb(0, 1201, 420), 420);
        CHECKS.taken("ebb", x, x.ebb(0, 9999, LEAST), 60);
        CHECKS.taken("ebb", x, x.ebb(0, 9999, 780), 780);
        CHECKS.sentence("ebb(): -1: there is none.");
        CHECKS.taken("ebb", x, x.ebb(0, 0, LEAST), -1);
        CHECKS.taken("ebb", x, x.ebb(0, -9999, 0), -1);
        CHECKS.taken("ebb", x, x.ebb(0, 9999, 781), -1);
        CHECKS.taken("ebb", x, x.ebb(0, 9999, MOST), -1);
        CHECKS.sentence("ebb(): 1: no such PORT; 3: as above().");
        for (int h : new int[] {-10000, 10000, LEAST, MOST}) {
            CHECKS.refused("ebb(0, " + h + ", 60)", x, x.ebb(0, h, 60), 3);
            CHECKS.refused("ebb(0, " + h + ", -1)", x, x.ebb(0, h, -1), 3);
            CHECKS.refused("1 ahead of 3: ebb(1, " + h + ", 60)", x, x.ebb(1, h, 60), 1);
        }
        for (int port : NO_PORTS) {
            CHECKS.refused("ebb(" + port + ", 0, 60)", x, x.ebb(port, 0, 60), 1);
        }
    }

    static Checks run() {
        firstAndLastMinutes();
        heightsOfTurns();
        sixths();
        nothingRounded();
        waterAsked();
        rises();
        ebbs();
        return CHECKS;
    }

    public static void main(String[] args) {
        run().close();
    }
}
