/** Promises 15 to 18: the water by the rule of twelfths, and when it rises or ebbs. */
public final class WaterTest {
    private static final Checks CHECKS = new Checks();

    /** 1200 in 360 minutes: a twelfth is 100, a sixth of the time an hour. */
    private static void wholeTwelfths() {
        Asked x = new Asked();
        Checks.port(x, "hw0100 1200,lw0700 0,hw1300 1200");
        int[] due = {1200, 1100, 900, 600, 300, 100, 0, 100, 300, 600, 900, 1100, 1200};
        for (int i = 0; i < due.length; i++) {
            CHECKS.taken("water", x, x.water(0, 60 + 60 * i), due[i]);
            CHECKS.due("above", x.above(0, 60 + 60 * i, due[i]), 1);
            CHECKS.due("above", x.above(0, 60 + 60 * i, due[i] + 1), 0);
        }
        // one minute into each part: 100, 200, 300, 300, 200, 100 in an hour
        int[] next = {1198, 1096, 895, 595, 296, 98, 1, 103, 305, 605, 903, 1101};
        for (int i = 0; i < next.length; i++) {
            CHECKS.due("water", x.water(0, 61 + 60 * i), next[i]);
        }
        CHECKS.due("water(0, 61)", x.water(0, 61), 1198);
        CHECKS.due("above(0, 61, 1198)", x.above(0, 61, 1198), 1);
        CHECKS.due("above(0, 61, 1199)", x.above(0, 61, 1199), 0);
        CHECKS.refused("water(0, 59)", x, x.water(0, 59), 1);
        CHECKS.refused("water(0, 781)", x, x.water(0, 781), 1);
        CHECKS.refused("water(0, least)", x, x.water(0, Integer.MIN_VALUE), 1);
        CHECKS.refused("water(1, 60)", x, x.water(1, 60), 1);
        CHECKS.refused("water(-1, 60)", x, x.water(-1, 60), 1);
    }

    /** A time that is no multiple of six, heights below 0: rounded down, never towards 0. */
    private static void roundedDown() {
        Asked x = new Asked();
        Checks.port(x, "lw0000 -7,hw0101 -6");
        CHECKS.due("water(0, 0)", x.water(0, 0), -7);
        CHECKS.due("water(0, 1)", x.water(0, 1), -7);
        CHECKS.due("water(0, 60)", x.water(0, 60), -7);
        CHECKS.due("water(0, 61)", x.water(0, 61), -6);
        CHECKS.due("above(0, 60, -6)", x.above(0, 60, -6), 0);
        CHECKS.due("above(0, 1, -7)", x.above(0, 1, -7), 1);
        Checks.port(x, "hw0000 300,lw0101 -432");
        // t = 11: part 1, r 5: 300 - 732 * (61 + 10) / 732 = 229; t = 10: part 0, r 60: 300 - 60
        CHECKS.due("water(1, 10)", x.water(1, 10), 240);
        CHECKS.due("water(1, 11)", x.water(1, 11), 229);
        // t = 31: part 3, r 3: 300 - (366 + 9)
        CHECKS.due("water(1, 31)", x.water(1, 31), -75);
        // t = 60: part 5, r 55: 300 - (671 + 55)
        CHECKS.due("water(1, 60)", x.water(1, 60), -426);
        CHECKS.due("water(1, 61)", x.water(1, 61), -432);
    }

    private static void lastOfSixteenTurns() {
        Asked x = new Asked();
        Checks.port(x, "hw0100 900,lw0200 0,hw0300 900,lw0400 0,hw0500 900,lw0600 0,hw0700 900,lw0800 0");
        Checks.longer(x, 0, "hw0900 900,lw1000 0,hw1100 900,lw1200 0,hw1300 900,lw1400 0,hw1500 900,lw1600 0");
        CHECKS.due("water(1, 890)", x.water(1, 890), 825);
        CHECKS.due("water(1, 930)", x.water(1, 930), 450);
        CHECKS.due("water(1, 960)", x.water(1, 960), 0);
        CHECKS.due("rise", x.rise(1, 450, 931), -1);
        CHECKS.due("rise", x.rise(1, 450, 930), 930);
        CHECKS.due("ebb", x.ebb(1, 450, 900), 931);
    }

    private static void aboves() {
        Asked x = new Asked();
        Checks.port(x, "hw0100 1200,lw0700 0");
        CHECKS.taken("above 9999", x, x.above(0, 60, 9999), 0);
        CHECKS.taken("above -9999", x, x.above(0, 60, -9999), 1);
        CHECKS.refused("above 10000", x, x.above(0, 60, 10000), 3);
        CHECKS.refused("above -10000", x, x.above(0, 60, -10000), 3);
        CHECKS.refused("above, no minute", x, x.above(0, 59, 10000), 1);
        CHECKS.refused("above, no port", x, x.above(1, 60, 10000), 1);
        CHECKS.refused("rise 10000", x, x.rise(0, 10000, 0), 3);
        CHECKS.refused("rise -10000", x, x.rise(0, -10000, 0), 3);
        CHECKS.refused("rise, no port", x, x.rise(1, 10000, 0), 1);
        CHECKS.refused("ebb 10000", x, x.ebb(0, 10000, 0), 3);
        CHECKS.refused("ebb -10000", x, x.ebb(0, -10000, 0), 3);
        CHECKS.refused("ebb, no port", x, x.ebb(-1, 10000, 0), 1);
    }

    private static void riseAndEbb() {
        Asked x = new Asked();
        Checks.port(x, "hw0100 1200,lw0700 0,hw1300 1200,lw1900 600");
        int least = Integer.MIN_VALUE;
        int most = Integer.MAX_VALUE;
        CHECKS.taken("rise", x, x.rise(0, 1200, least), 60);
        CHECKS.taken("rise", x, x.rise(0, 1200, 61), 780);
        CHECKS.taken("rise", x, x.rise(0, 1200, 781), -1);
        CHECKS.taken("rise", x, x.rise(0, 1201, 0), -1);
        CHECKS.taken("rise", x, x.rise(0, 600, 100), 100);
        CHECKS.taken("rise", x, x.rise(0, 600, 240), 240);
        CHECKS.taken("rise", x, x.rise(0, 600, 241), 600);
        CHECKS.taken("rise", x, x.rise(0, 600, 1140), 1140);
        CHECKS.taken("rise", x, x.rise(0, 600, 1141), -1);
        CHECKS.taken("rise", x, x.rise(0, 601, 600), 601);
        CHECKS.taken("rise", x, x.rise(0, -9999, most), -1);
        CHECKS.taken("rise", x, x.rise(0, -9999, least), 60);
        CHECKS.taken("ebb", x, x.ebb(0, 1200, least), 61);
        CHECKS.taken("ebb", x, x.ebb(0, 1201, least), 60);
        CHECKS.taken("ebb", x, x.ebb(0, 1200, 780), 781);
        CHECKS.taken("ebb", x, x.ebb(0, 600, 0), 241);
        CHECKS.taken("ebb", x, x.ebb(0, 600, 599), 599);
        CHECKS.taken("ebb", x, x.ebb(0, 600, 600), -1);
        CHECKS.taken("ebb", x, x.ebb(0, 601, 600), 600);
        // 600 and 5 / 6
        CHECKS.taken("ebb", x, x.ebb(0, 601, 601), 1139);
        CHECKS.taken("ebb", x, x.ebb(0, 0, 0), -1);
        CHECKS.taken("ebb", x, x.ebb(0, 1, 0), 420);
        CHECKS.taken("ebb", x, x.ebb(0, 9999, most), -1);
    }

    public static void main(String[] args) {
        wholeTwelfths();
        roundedDown();
        lastOfSixteenTurns();
        aboves();
        riseAndEbb();
        CHECKS.close();
    }
}
