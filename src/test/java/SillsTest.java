/** Promises 7, 8, 19 to 23 and 30 (sills, ships): the windows of sills for ships. */
public final class SillsTest {
    private static final Checks CHECKS = new Checks();
    /** Minutes 0 to 720; 600 and more from 180 to 540. */
    private static final String ONE_TIDE = "lw0000 0,hw0600 1200,lw1200 0";

    private static Asked with(String port, String sill, String ship) {
        Asked x = new Asked();
        CHECKS.due("port " + port, Checks.port(x, port), 0);
        CHECKS.due("sill " + sill, Checks.sill(x, 0, sill), 0);
        CHECKS.due("ship " + ship, Checks.ship(x, ship), 0);
        return x;
    }

    private static void windows(String port, String sill, String ship, String note, int... ends) {
        Asked x = with(port, sill, ship);
        String what = sill + " for " + ship + " at " + port;
        CHECKS.taken("hours: " + what, x, x.hours(0, 0), ends.length / 2);
        int all = 0;
        for (int k = 0; k < ends.length / 2; k++) {
            CHECKS.taken("first: " + what, x, x.hour(0, 0, k, 0), ends[2 * k]);
            CHECKS.taken("last: " + what, x, x.hour(0, 0, k, 1), ends[2 * k + 1]);
            CHECKS.due("good: " + what, x.good(0, 0, ends[2 * k]), 1);
            CHECKS.due("good: " + what, x.good(0, 0, ends[2 * k + 1]), 1);
            CHECKS.due("good: " + what, x.good(0, 0, ends[2 * k] - 1), 0);
            CHECKS.due("good: " + what, x.good(0, 0, ends[2 * k + 1] + 1), 0);
            all += ends[2 * k + 1] - ends[2 * k] + 1;
        }
        CHECKS.refused("hour: " + what, x, x.hour(0, 0, ends.length / 2, 0), 1);
        CHECKS.taken("minutes: " + what, x, x.minutes(0, 0), all);
        CHECKS.due("note: " + what, Checks.note(x, 0, 0), note);
    }

    private static void bars() {
        windows(ONE_TIDE, "bar 400", "200 9999 10", "0300-0900", 180, 540);
        windows(ONE_TIDE, "bar -500", "500 0 10", "open", 0, 720);
        windows(ONE_TIDE, "bar -500", "501 0 10", "0001-1159", 1, 719);
        windows(ONE_TIDE, "bar 1199", "1 0 10", "0600", 360, 360);
        windows(ONE_TIDE, "bar 1200", "1 0 10", "shut");
        windows("hw2200 1200,lw0400 0,hw1000 1200,lw1600 0,hw2200 1200", "bar 500", "100 0 1",
            "2200-0100+1, 0700+1-1300+1, 1900+1-2200+1", 1320, 1500, 1860, 2220, 2580, 2760);
        windows("hw2200 1200,lw0400 0", "bar 1199", "1 0 1", "2200", 1320, 1320);
        windows("lw2200 0,hw0400 1200", "bar 1199", "1 0 1", "0400+1", 1680, 1680);
        windows("hw2200 1200", "bar 1199", "1 0 1", "open", 1320, 1320);
        windows("hw2200 1200", "bar 1199", "2 0 1", "shut");
    }

    private static void gates() {
        windows(ONE_TIDE, "gate 400 60 30", "200 0 1", "0500-0630", 300, 390);
        windows(ONE_TIDE, "gate 400 0 0", "200 0 1", "0600", 360, 360);
        windows(ONE_TIDE, "gate 400 600 600", "200 0 1", "0300-0900", 180, 540);
        windows(ONE_TIDE, "gate -300 600 600", "200 0 1", "open", 0, 720);
        windows(ONE_TIDE, "gate 400 200 0", "200 0 1", "0300-0600", 180, 360);
        windows("lw0000 0,hw0600 1200", "gate -300 10 10", "200 0 1", "0550-0600", 350, 360);
        windows("hw0000 1200,lw0600 0", "gate -300 10 10", "200 0 1", "0000-0010", 0, 10);
        windows("lw0000 0", "gate -300 600 600", "200 0 1", "shut");
        // two tides 200 minutes apart, low water 800: 100 behind and 99 ahead touch, 98 ahead do not
        String two = "hw0000 900,lw0140 800,hw0320 900";
        windows(two, "gate 0 99 100", "1 0 1", "open", 0, 200);
        windows(two, "gate 0 98 100", "1 0 1", "0000-0140, 0142-0320", 0, 100, 102, 200);
        windows(two, "gate 0 200 0", "1 0 1", "open", 0, 200);
        windows(two, "gate 0 150 150", "1 0 1", "open", 0, 200);
        windows(two, "gate 849 40 40", "1 0 1", "0000-0040, 0240-0320", 0, 40, 160, 200);
        windows(two, "gate 849 600 600", "1 0 1", "0000-0050, 0230-0320", 0, 50, 150, 200);
    }

    private static void flaps() {
        windows(ONE_TIDE, "flap 600 0 250", "250 0 1", "0300-0900", 180, 540);
        windows(ONE_TIDE, "flap 600 60 250", "250 0 1", "0400-0900", 240, 540);
        windows(ONE_TIDE, "flap 600 60 250", "251 0 1", "shut");
        windows(ONE_TIDE, "flap 600 360 9999", "250 0 1", "0900", 540, 540);
        windows(ONE_TIDE, "flap 600 361 9999", "250 0 1", "shut");
        windows(ONE_TIDE, "flap 0 0 1", "1 0 1", "open", 0, 720);
        windows(ONE_TIDE, "flap 0 1 1", "1 0 1", "0001-1200", 1, 720);
        windows(ONE_TIDE, "flap 0 600 1", "1 0 1", "1000-1200", 600, 720);
        windows("hw0000 9,lw0100 0", "flap -500 61 1", "1 0 1", "shut");
        windows("hw0000 1200,lw0600 0,hw1200 1200", "flap 600 30 9", "9 0 1", "0030-0300, 0930-1200", 30, 180, 570, 720);
    }

    private static void bridges() {
        windows(ONE_TIDE, "bridge 1000", "1500 400 1", "0000-0300, 0900-1200", 0, 180, 540, 720);
        windows(ONE_TIDE, "bridge 9999", "1 8799 1", "open", 0, 720);
        windows(ONE_TIDE, "bridge 9999", "1 8800 1", "0000-0559, 0601-1200", 0, 359, 361, 720);
        windows(ONE_TIDE, "bridge 9999", "1 9999 1", "0000, 1200", 0, 0, 720, 720);
        windows(ONE_TIDE, "bridge 9998", "1 9999 1", "shut");
        // at minute 1 the height is 5 / 3: above 1, though 1 is the greatest whole number not above it
        windows(ONE_TIDE, "bridge 1", "1 0 1", "0000, 1200", 0, 0, 720, 720);
        windows(ONE_TIDE, "bridge 2", "1 0 1", "0000-0001, 1159-1200", 0, 1, 719, 720);
        windows("lw0000 -500,hw0600 1200", "bridge 0", "1 500 1", "0000", 0, 0);
        windows("lw0000 -500,hw0600 1200", "bridge 0", "1 501 1", "shut");
    }

    private static void faults() {
        Asked x = new Asked();
        Checks.port(x, ONE_TIDE);
        String[] unsound = {"bar -501", "bar 1501", "gate -501 0 0", "gate 1501 0 0", "gate 0 601 0", "gate 0 0 601",
            "flap -501 0 0", "flap 1501 0 0", "flap 0 601 0", "bridge -1"};
        for (String text : unsound) {
            CHECKS.refused(text, x, Checks.sill(x, 0, text), 4);
            CHECKS.due("fault() of " + text, x.fault(), 8);
        }
        String[] sound = {"bar -500", "bar 1500", "gate -500 600 600", "flap 1500 600 9999", "bridge 0", "bridge -0",
            "bridge 9999"};
        for (int i = 0; i < sound.length; i++) {
            CHECKS.taken(sound[i], x, Checks.sill(x, 0, sound[i]), i);
            CHECKS.due("fault() of " + sound[i], x.fault(), 0);
            CHECKS.due("written", Checks.written(x, 1, i), sound[i].equals("bridge -0") ? "bridge 0" : sound[i]);
        }
        CHECKS.refused("no such port", x, Checks.sill(x, 1, "bar 0"), 1);
        CHECKS.refused("no such port", x, Checks.sill(x, -1, "bar"), 1);
        String[] leaky = {"0 0 1", "1501 0 1", "1 0 0", "1 0 61"};
        for (String text : leaky) {
            CHECKS.refused(text, x, Checks.ship(x, text), 4);
            CHECKS.due("fault() of " + text, x.fault(), 9);
        }
        String[] ships = {"1 0 1", "1500 9999 60", "0012 0000 0007"};
        for (int i = 0; i < ships.length; i++) {
            CHECKS.taken(ships[i], x, Checks.ship(x, ships[i]), i);
            CHECKS.due("written", Checks.written(x, 2, i), i == 2 ? "12 0 7" : ships[i]);
        }
        CHECKS.due("written", Checks.written(x, 1, 99), "");
    }

    private static void rooms() {
        Asked x = new Asked();
        Checks.port(x, ONE_TIDE);
        for (int i = 0; i < 12; i++) {
            CHECKS.taken("sill", x, Checks.sill(x, 0, "bar " + i), i);
        }
        CHECKS.refused("a thirteenth sill", x, Checks.sill(x, 0, "bar 0"), 9);
        CHECKS.due("place()", x.place(), SillHours.BAD);
        CHECKS.due("fault()", x.fault(), 0);
        CHECKS.refused("a fault ahead of no room", x, Checks.sill(x, 0, "bar 1501"), 4);
        CHECKS.refused("a wrong text ahead of a fault", x, Checks.sill(x, 0, "bar 1501 7"), 2);
        CHECKS.refused("no such port ahead of a wrong text", x, Checks.sill(x, 1, "bar 1501 7"), 1);
        for (int i = 0; i < 6; i++) {
            CHECKS.taken("ship", x, Checks.ship(x, "1 1 1"), i);
        }
        CHECKS.refused("a seventh ship", x, Checks.ship(x, "1 1 1"), 9);
        CHECKS.refused("a fault ahead of no room", x, Checks.ship(x, "0 1 1"), 4);
        CHECKS.refused("a wrong text ahead of a fault", x, Checks.ship(x, "0 1"), 2);
        CHECKS.due("count(1)", x.count(1), 12);
        CHECKS.due("count(2)", x.count(2), 6);
        CHECKS.due("count(4)", x.count(4), 0);
    }

    private static void refusals() {
        Asked x = with(ONE_TIDE, "bar 400", "200 0 1");
        int[][] none = {{1, 0}, {0, 1}, {-1, 0}, {0, -1}};
        for (int[] pair : none) {
            CHECKS.refused("hours", x, x.hours(pair[0], pair[1]), 1);
            CHECKS.refused("hour", x, x.hour(pair[0], pair[1], 0, 7), 1);
            CHECKS.refused("minutes", x, x.minutes(pair[0], pair[1]), 1);
            CHECKS.refused("good", x, x.good(pair[0], pair[1], 300), 1);
            CHECKS.refused("note", x, x.note(pair[0], pair[1], 0), 1);
        }
        CHECKS.refused("hour, no window", x, x.hour(0, 0, 1, 7), 1);
        CHECKS.refused("hour, no window", x, x.hour(0, 0, -1, 0), 1);
        CHECKS.refused("hour, what", x, x.hour(0, 0, 0, 2), 3);
        CHECKS.refused("hour, what", x, x.hour(0, 0, 0, -1), 3);
        CHECKS.taken("good, any number", x, x.good(0, 0, Integer.MIN_VALUE), 0);
        CHECKS.taken("good, any number", x, x.good(0, 0, Integer.MAX_VALUE), 0);
        CHECKS.refused("note, no such place", x, x.note(0, 0, -1), 1);
        CHECKS.taken("note", x, x.note(0, 0, 8), '0');
        CHECKS.refused("note, no such place", x, x.note(0, 0, 9), 1);
    }

    /** A sill keeps its port, whatever ports come later; ships differ at the same sill. */
    private static void severalPorts() {
        Asked x = new Asked();
        Checks.port(x, ONE_TIDE);
        Checks.port(x, "hw0000 900,lw0140 800");
        Checks.sill(x, 1, "bar 700");
        Checks.sill(x, 0, "bar 500");
        Checks.ship(x, "100 0 1");
        Checks.ship(x, "101 0 1");
        CHECKS.due("note", Checks.note(x, 0, 0), "open");
        CHECKS.due("note", Checks.note(x, 1, 0), "0300-0900");
        CHECKS.due("note", Checks.note(x, 0, 1), "0000-0138");
    }

    /** As many windows as a port can have, on all days that it can have. */
    private static void manyWindows() {
        Asked x = new Asked();
        Checks.port(x, "hw0 1,lw1040 0,hw0 1,lw1040 0,hw0 1,lw1040 0,hw0 1,lw1040 0,hw0 1,lw1040 0,hw0 1,lw1040 0,"
            + "hw0 1,lw1040 0,hw0 1,lw1040 0");
        Checks.sill(x, 0, "gate 0 1 1");
        Checks.sill(x, 0, "gate 0 0 0");
        Checks.sill(x, 0, "bridge 0");
        Checks.ship(x, "1 0 1");
        CHECKS.due("hours", x.hours(0, 0), 8);
        CHECKS.due("note", Checks.note(x, 1, 0),
            "0000, 0000+1, 0000+2, 0000+3, 0000+4, 0000+5, 0000+6, 0000+7");
        CHECKS.due("note", Checks.note(x, 2, 0),
            "1040, 1040+1, 1040+2, 1040+3, 1040+4, 1040+5, 1040+6, 1040+7");
    }

    public static void main(String[] args) {
        bars();
        gates();
        flaps();
        bridges();
        faults();
        rooms();
        refusals();
        severalPorts();
        manyWindows();
        CHECKS.close();
    }
}
