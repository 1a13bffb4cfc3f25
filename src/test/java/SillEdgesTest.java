/**
 * The boundary cases of 4 SILLS AND SHIPS and of promises 7, 8, 19 to 23 and 30 (sills, ships), each sentence of the
 * document by itself.
 */
public final class SillEdgesTest {
    private static final Checks CHECKS = new Checks();
    private static final String ONE_TIDE = Checks.ONE_TIDE;
    /** Minutes 0, 100 and 200; never below 800. */
    private static final String TWO_HIGHS = "hw0000 900,lw0140 800,hw0320 900";
    private static final int LEAST = Integer.MIN_VALUE;
    private static final int MOST = Integer.MAX_VALUE;
    private static final int[] NO_NUMBERS = {-1, 1, 6, 12, LEAST, MOST};

    private static Asked with(String port, String sill, String ship) {
        Asked x = new Asked();
        CHECKS.due("port " + port, Checks.port(x, port), 0);
        CHECKS.due("sill " + sill, Checks.sill(x, 0, sill), 0);
        CHECKS.due("ship " + ship, Checks.ship(x, ship), 0);
        return x;
    }

    /** ends: the first and the last minute of each window. */
    private static void windows(String port, String sill, String ship, int... ends) {
        Asked x = with(port, sill, ship);
        String what = sill + " for " + ship + " at " + port;
        int all = 0;
        CHECKS.taken("hours: " + what, x, x.hours(0, 0), ends.length / 2);
        for (int k = 0; k < ends.length / 2; k++) {
            CHECKS.taken("first: " + what, x, x.hour(0, 0, k, 0), ends[2 * k]);
            CHECKS.taken("last: " + what, x, x.hour(0, 0, k, 1), ends[2 * k + 1]);
            CHECKS.taken("good: " + what, x, x.good(0, 0, ends[2 * k] - 1), 0);
            CHECKS.taken("good: " + what, x, x.good(0, 0, ends[2 * k]), 1);
            CHECKS.taken("good: " + what, x, x.good(0, 0, ends[2 * k + 1]), 1);
            CHECKS.taken("good: " + what, x, x.good(0, 0, ends[2 * k + 1] + 1), 0);
            all += ends[2 * k + 1] - ends[2 * k] + 1;
        }
        CHECKS.refused("a window more: " + what, x, x.hour(0, 0, ends.length / 2, 0), 1);
        CHECKS.taken("minutes: " + what, x, x.minutes(0, 0), all);
    }

    private static void note(String port, String sill, String ship, String due) {
        Asked x = with(port, sill, ship);
        CHECKS.due("note of " + sill + " for " + ship + " at " + port, Checks.note(x, 0, 0), due);
    }

    private static void bars() {
        CHECKS.sentence("bar s: if the HEIGHT is s + DRAUGHT or more");
        windows(ONE_TIDE, "bar 400", "200 0 1", 180, 540);
        windows(ONE_TIDE, "bar 401", "200 0 1", 181, 539);
        windows(ONE_TIDE, "bar 400", "201 0 1", 181, 539);
        windows(ONE_TIDE, "bar 1199", "1 0 1", 360, 360);
        windows(ONE_TIDE, "bar 1200", "1 0 1");
        windows(ONE_TIDE, "bar -100", "100 9999 60", 0, 720);
        windows(ONE_TIDE, "bar -99", "100 9999 60", 1, 719);
        // 5 / 3 at minute 1, 10 / 3 at minute 2
        windows(ONE_TIDE, "bar 1", "1 0 1", 2, 718);
        windows(ONE_TIDE, "bar -500", "1500 0 1", 270, 450);
        windows(ONE_TIDE, "bar 1500", "1500 0 1");
        windows("lw0000 -500,hw0600 700", "bar -500", "1 0 1", 1, 360);
        windows("lw0000 -500", "bar -500", "1 0 1");
        windows("hw0000 1500", "bar 0", "1500 0 1", 0, 0);
    }

    private static void gates() {
        CHECKS.sentence("gate s b a: if the HEIGHT is s + DRAUGHT or more");
        windows(ONE_TIDE, "gate 400 600 600", "200 0 1", 180, 540);
        windows(ONE_TIDE, "gate 401 600 600", "200 0 1", 181, 539);
        windows(ONE_TIDE, "gate 1199 600 600", "1 0 1", 360, 360);
        windows(ONE_TIDE, "gate 1200 600 600", "1 0 1");
        CHECKS.sentence("and there is a HIGH TURN of the PORT");
        windows("hw0000 1200,lw0600 1000", "gate 0 0 0", "1 0 1", 0, 0);
        windows("lw0000 1000,hw0600 1200", "gate 0 0 0", "1 0 1", 360, 360);
        windows("lw0000 1000", "gate 0 600 600", "1 0 1");
        windows("hw0000 1000", "gate 0 0 0", "1 0 1", 0, 0);
        CHECKS.sentence("such that the MINUTE is no more than b ahead of this one's");
        windows(ONE_TIDE, "gate 400 0 600", "200 0 1", 360, 540);
        windows(ONE_TIDE, "gate 400 1 600", "200 0 1", 359, 540);
        windows(ONE_TIDE, "gate 400 180 600", "200 0 1", 180, 540);
        windows(ONE_TIDE, "gate 400 179 600", "200 0 1", 181, 540);
        windows("lw0000 1000,hw1000 1200", "gate 0 600 0", "1 0 1", 0, 600);
        windows("lw0000 1000,hw1000 1200", "gate 0 599 0", "1 0 1", 1, 600);
        CHECKS.sentence("and no more than a behind it");
        windows(ONE_TIDE, "gate 400 600 0", "200 0 1", 180, 360);
        windows(ONE_TIDE, "gate 400 600 1", "200 0 1", 180, 361);
        windows(ONE_TIDE, "gate 400 600 180", "200 0 1", 180, 540);
        windows(ONE_TIDE, "gate 400 600 179", "200 0 1", 180, 539);
        windows("hw0000 1200,lw1000 1000", "gate 0 0 600", "1 0 1", 0, 600);
        windows("hw0000 1200,lw1000 1000", "gate 0 0 599", "1 0 1", 0, 599);
        windows(ONE_TIDE, "gate 400 60 30", "200 0 1", 300, 390);
    }

    private static void flaps() {
        CHECKS.sentence("flap s c d: if the DRAUGHT is d or less");
        windows(ONE_TIDE, "flap 600 0 250", "250 0 1", 180, 540);
        windows(ONE_TIDE, "flap 600 0 250", "251 0 1");
        windows(ONE_TIDE, "flap 600 0 0", "1 0 1");
        windows(ONE_TIDE, "flap 600 0 1", "1 0 1", 180, 540);
        windows(ONE_TIDE, "flap 600 0 9999", "1500 0 1", 180, 540);
        CHECKS.sentence("and the HEIGHT is s or more at the MINUTE");
        windows(ONE_TIDE, "flap 601 0 9999", "250 0 1", 181, 539);
        windows(ONE_TIDE, "flap 1200 0 9999", "250 0 1", 360, 360);
        windows(ONE_TIDE, "flap 1201 0 9999", "250 0 1");
        windows(ONE_TIDE, "flap 0 0 9999", "250 0 1", 0, 720);
        windows(ONE_TIDE, "flap 1 0 9999", "250 0 1", 1, 719);
        CHECKS.sentence("and at each of the c numbers ahead of it");
        windows(ONE_TIDE, "flap 600 1 9999", "250 0 1", 181, 540);
        windows(ONE_TIDE, "flap 600 359 9999", "250 0 1", 539, 540);
        windows(ONE_TIDE, "flap 600 360 9999", "250 0 1", 540, 540);
        windows(ONE_TIDE, "flap 600 361 9999", "250 0 1");
        // the water stands at 850 or more up to 50 and from 150 on
        windows(TWO_HIGHS, "flap 850 0 9", "9 0 1", 0, 50, 150, 200);
        windows(TWO_HIGHS, "flap 850 50 9", "9 0 1", 50, 50, 200, 200);
        windows(TWO_HIGHS, "flap 850 51 9", "9 0 1");
        CHECKS.sentence("all of which are MINUTES of the PORT");
        windows(ONE_TIDE, "flap -500 1 9999", "250 0 1", 1, 720);
        windows(ONE_TIDE, "flap -500 600 9999", "250 0 1", 600, 720);
        windows("lw0100 0,hw0200 9", "flap -500 60 9", "9 0 1", 120, 120);
        windows("lw0100 0,hw0200 9", "flap -500 61 9", "9 0 1");
        windows("hw0100 9", "flap -500 0 9", "9 0 1", 60, 60);
        windows("hw0100 9", "flap -500 1 9", "9 0 1");
    }

    private static void bridges() {
        CHECKS.sentence("bridge s: if the HEIGHT and the MAST come to s or less together");
        windows(ONE_TIDE, "bridge 1000", "1500 400 60", 0, 180, 540, 720);
        windows(ONE_TIDE, "bridge 999", "1 400 1", 0, 179, 541, 720);
        windows(ONE_TIDE, "bridge 1000", "1 401 1", 0, 179, 541, 720);
        windows(ONE_TIDE, "bridge 9999", "1 8799 1", 0, 720);
        windows(ONE_TIDE, "bridge 9999", "1 8800 1", 0, 359, 361, 720);
        windows(ONE_TIDE, "bridge 9999", "1 9999 1", 0, 0, 720, 720);
        windows(ONE_TIDE, "bridge 9998", "1 9999 1");
        windows(ONE_TIDE, "bridge 0", "1 0 1", 0, 0, 720, 720);
        // 5 / 3 at minute 1: more than 1
        windows(ONE_TIDE, "bridge 1", "1 0 1", 0, 0, 720, 720);
        windows(ONE_TIDE, "bridge 2", "1 0 1", 0, 1, 719, 720);
        windows("lw0000 -500", "bridge 0", "1 500 1", 0, 0);
        windows("lw0000 -500", "bridge 0", "1 501 1");
    }

    private static void windowsOfTwoTides() {
        CHECKS.sentence("WINDOWS (0, 1, ..) are rows of GOOD MINUTES, one behind the other, as long as they can be, rising.");
        windows(TWO_HIGHS, "gate 0 99 100", "1 0 1", 0, 200);
        windows(TWO_HIGHS, "gate 0 98 100", "1 0 1", 0, 100, 102, 200);
        windows(TWO_HIGHS, "gate 0 99 99", "1 0 1", 0, 99, 101, 200);
        windows(TWO_HIGHS, "gate 0 150 150", "1 0 1", 0, 200);
        windows(TWO_HIGHS, "gate 0 600 600", "1 0 1", 0, 200);
        windows(TWO_HIGHS, "gate 849 40 40", "1 0 1", 0, 40, 160, 200);
        windows(TWO_HIGHS, "gate 849 600 600", "1 0 1", 0, 50, 150, 200);
        windows("hw0000 9,lw0100 0,hw0200 9,lw0300 0,hw0400 9,lw0500 0,hw0600 9,lw0700 0,hw0800 9,lw0900 0,hw1000 9", "bar 8", "1 0 1",
            0, 0, 120, 120, 240, 240, 360, 360, 480, 480, 600, 600);
        CHECKS.sentence("A SILL is one of a PORT. A MINUTE of that PORT is GOOD");
        Asked x = new Asked();
        Checks.port(x, ONE_TIDE);
        Checks.port(x, "hw1300 900,lw1445 800");
        Checks.sill(x, 1, "bar 0");
        Checks.sill(x, 0, "bar -1");
        Checks.ship(x, "1 0 1");
        CHECKS.due("first", x.hour(0, 0, 0, 0), 780);
        CHECKS.due("last", x.hour(0, 0, 0, 1), 885);
        CHECKS.due("first", x.hour(1, 0, 0, 0), 0);
        CHECKS.due("last", x.hour(1, 0, 0, 1), 720);
    }

    private static void sillFault(String text, int fault) {
        Asked x = Checks.harbour();
        CHECKS.judged(text, x, Checks.sill(x, 0, text), 1, 1, fault);
    }

    private static void shipFault(String text, int fault) {
        Asked x = Checks.harbour();
        CHECKS.judged(text, x, Checks.ship(x, text), 2, 1, fault);
    }

    private static void faults() {
        CHECKS.sentence("8 of a right SILL, if not: SIZE is from -500 to 1500");
        for (String kind : new String[] {"bar %", "gate % 0 0", "flap % 0 0"}) {
            for (String size : new String[] {"-500", "1500", "0", "-0"}) {
                sillFault(kind.replace("%", size), 0);
            }
            for (String size : new String[] {"-501", "1501", "-9999", "9999"}) {
                sillFault(kind.replace("%", size), 8);
            }
        }
        CHECKS.sentence("8 but of a bridge 0 or more (9999 at most, as NUMBERS go)");
        for (String size : new String[] {"0", "-0", "1", "1501", "9999"}) {
            sillFault("bridge " + size, 0);
        }
        for (String size : new String[] {"-1", "-500", "-501", "-9999"}) {
            sillFault("bridge " + size, 8);
        }
        CHECKS.sentence("8 b, a and c are 600 at most");
        sillFault("gate 0 600 600", 0);
        sillFault("gate 0 601 0", 8);
        sillFault("gate 0 0 601", 8);
        sillFault("gate 0 9999 9999", 8);
        sillFault("gate 0 600 601", 8);
        sillFault("flap 0 600 0", 0);
        sillFault("flap 0 601 0", 8);
        sillFault("flap 0 9999 0", 8);
        sillFault("flap 0 0 601", 0);
        sillFault("flap 0 0 9999", 0);
        sillFault("flap 1501 601 0", 8);
        CHECKS.sentence("9 of a right SHIP, if not: n is from 1 to 1500, k from 1 to 60");
        for (String text : new String[] {"1 0 1", "1500 0 1", "1 0 60", "1500 9999 60", "1 9999 1"}) {
            shipFault(text, 0);
        }
        for (String text : new String[] {"0 0 1", "1501 0 1", "9999 0 1", "1 0 0", "1 0 61", "1 0 9999", "0 0 0", "0000 9999 60"}) {
            shipFault(text, 9);
        }
    }

    private static void writtenOnes() {
        CHECKS.sentence("A SILL is WRITTEN as its WORD and its numbers, a SHIP as its numbers, a BLANK between each two.");
        String[] sills = {"bar5", "bar -0500", "gate-0 0 600", "flap 0010 0600 9999", "bridge 0000", "bridge 1000", "bridge -0"};
        String[] writtenSills = {"bar 5", "bar -500", "gate 0 0 600", "flap 10 600 9999", "bridge 0", "bridge 1000", "bridge 0"};
        Asked x = Checks.harbour();
        for (int i = 0; i < sills.length; i++) {
            CHECKS.taken(sills[i], x, Checks.sill(x, 0, sills[i]), i + 1);
            CHECKS.due("written " + sills[i], Checks.written(x, 1, i + 1), writtenSills[i]);
        }
        String[] ships = {"1500 9999 60", "0001 0000 0010", " 10 100 9 "};
        String[] writtenShips = {"1500 9999 60", "1 0 10", "10 100 9"};
        for (int i = 0; i < ships.length; i++) {
            CHECKS.taken(ships[i], x, Checks.ship(x, ships[i]), i + 1);
            CHECKS.due("written " + ships[i], Checks.written(x, 2, i + 1), writtenShips[i]);
        }
        CHECKS.sentence("letter(): The k-th byte (from 0) of a SILL (1), SHIP (2). 1.");
        x = Checks.harbour();
        CHECKS.taken("letter(1, 0, 0)", x, x.letter(1, 0, 0), 'b');
        CHECKS.taken("letter(1, 0, 4)", x, x.letter(1, 0, 4), '0');
        CHECKS.taken("letter(2, 0, 0)", x, x.letter(2, 0, 0), '1');
        CHECKS.taken("letter(2, 0, 7)", x, x.letter(2, 0, 7), '0');
        for (int k : new int[] {-1, 8, LEAST, MOST}) {
            CHECKS.refused("letter(1, 0, " + k + ")", x, x.letter(1, 0, k), 1);
            CHECKS.refused("letter(2, 0, " + k + ")", x, x.letter(2, 0, k), 1);
        }
        CHECKS.refused("letter(1, 0, 5)", x, x.letter(1, 0, 5), 1);
        for (int none : NO_NUMBERS) {
            CHECKS.refused("letter(1, " + none + ", 0)", x, x.letter(1, none, 0), 1);
            CHECKS.refused("letter(2, " + none + ", 0)", x, x.letter(2, none, 0), 1);
        }
    }

    private static void shutAndOpen() {
        CHECKS.sentence("The NOTE of a SILL for a SHIP: shut, if no MINUTE is GOOD");
        note(ONE_TIDE, "bar 1200", "1 0 1", "shut");
        note(ONE_TIDE, "gate 1200 600 600", "1 0 1", "shut");
        note(ONE_TIDE, "flap 0 0 1", "2 0 1", "shut");
        note(ONE_TIDE, "bridge 0", "1 1 1", "shut");
        note("hw0000 9", "bar 9", "1 0 1", "shut");
        note(ONE_TIDE, "bar 1199", "1 0 1", "0600");
        CHECKS.sentence("open, if all MINUTES of its PORT are");
        note(ONE_TIDE, "bar -1", "1 0 1", "open");
        note(ONE_TIDE, "gate -500 600 600", "1 0 1", "open");
        note(ONE_TIDE, "flap 0 0 1", "1 0 1", "open");
        note(ONE_TIDE, "bridge 1200", "1 0 1", "open");
        note(TWO_HIGHS, "gate 0 99 100", "1 0 1", "open");
        note("hw2200 9", "bar 8", "1 0 1", "open");
        // all but the first, all but the last, all but one between
        note(ONE_TIDE, "flap 0 1 1", "1 0 1", "0001-1200");
        note("hw0000 9,lw0100 8", "bar 8", "1 0 1", "0000");
        note("hw0000 200,lw0100 20", "bar 20", "1 0 1", "0000-0059");
        note("lw0000 20,hw0100 200", "bar 20", "1 0 1", "0001-0100");
        note(TWO_HIGHS, "gate 0 98 100", "1 0 1", "0000-0140, 0142-0320");
        note(ONE_TIDE, "bridge 9999", "1 8800 1", "0000-0559, 0601-1200");
    }

    private static void notes() {
        CHECKS.sentence("else its WINDOWS, with , and a BLANK between each two");
        note(ONE_TIDE, "bridge 1000", "1 400 1", "0000-0300, 0900-1200");
        note("hw0000 9,lw0100 0,hw0200 9,lw0300 0,hw0400 9", "bar 8", "1 0 1", "0000, 0200, 0400");
        CHECKS.sentence("the first MINUTE, and, if the last one is another, - and the last one");
        note(ONE_TIDE, "gate 400 0 0", "200 0 1", "0600");
        note(ONE_TIDE, "gate 400 1 0", "200 0 1", "0559-0600");
        note(ONE_TIDE, "gate 400 0 1", "200 0 1", "0600-0601");
        CHECKS.sentence("A MINUTE stands in it as its TIME in four digits, and behind it, if t / 1440 is above 0, + and this number.");
        note("lw1800 0,hw0000 1200,lw0600 0", "gate 0 1 0", "1 0 1", "2359-0000+1");
        note("lw1800 0,hw0000 1200,lw0600 0", "gate 0 0 1", "1 0 1", "0000+1-0001+1");
        note("lw1000 0,hw2000 9,lw0600 0,hw1500 9,lw0000 0", "bridge 0", "1 0 1", "1000, 0600+1, 0000+2");
        note("lw1000 0,hw2000 9,lw0600 0,hw1500 9,lw2359 0", "bridge 0", "1 0 1", "1000, 0600+1, 2359+1");
        note("lw0000 0,hw0959 9", "gate 0 0 0", "9 0 1", "0959");
        note("lw0000 0,hw1000 9", "gate 0 0 0", "9 0 1", "1000");
        // as many and as late as a port can have them
        Asked x = new Asked();
        Checks.port(x, "hw2359 9,lw1319 0,hw0239 9,lw1559 0,hw0519 9,lw1839 0,hw0759 9,lw2119 0");
        Checks.longer(x, 0, "hw1039 9,lw2359 0,hw1319 9,lw0239 0,hw1559 9,lw0519 0,hw1839 9,lw0759 0");
        Checks.sill(x, 1, "gate 0 0 0");
        Checks.sill(x, 1, "gate 0 1 1");
        Checks.sill(x, 1, "bridge 0");
        Checks.ship(x, "8 0 1");
        CHECKS.due("the last minute", x.turn(1, 15, 0), 1439 + 15 * 800);
        CHECKS.due("note", Checks.note(x, 0, 0), "2359, 0239+2, 0519+3, 0759+4, 1039+5, 1319+6, 1559+7, 1839+8");
        CHECKS.due("note", Checks.note(x, 1, 0), "2359-0000+1, 0238+2-0240+2, 0518+3-0520+3, 0758+4-0800+4, 1038+5-1040+5, "
            + "1318+6-1320+6, 1558+7-1600+7, 1838+8-1840+8");
        CHECKS.due("note", Checks.note(x, 2, 0), "1319+1, 1559+2, 1839+3, 2119+4, 2359+5, 0239+7, 0519+8, 0759+9");
    }

    private static void hoursAsked() {
        Asked x = with(ONE_TIDE, "bar 400", "200 0 1");
        for (int none : NO_NUMBERS) {
            CHECKS.sentence("hours(): How many WINDOWS a SILL has for a SHIP. 1.");
            CHECKS.refused("hours(" + none + ", 0)", x, x.hours(none, 0), 1);
            CHECKS.refused("hours(0, " + none + ")", x, x.hours(0, none), 1);
            CHECKS.sentence("hour(): The first (0) or last (1) MINUTE of the k-th WINDOW of a SILL for a SHIP. 1; 3.");
            CHECKS.refused("hour(" + none + ", 0, 0, 0)", x, x.hour(none, 0, 0, 0), 1);
            CHECKS.refused("hour(0, " + none + ", 0, 0)", x, x.hour(0, none, 0, 0), 1);
            CHECKS.refused("1 ahead of 3: hour(" + none + ", 0, 0, 2)", x, x.hour(none, 0, 0, 2), 1);
            CHECKS.refused("hour(0, 0, " + none + ", 0)", x, x.hour(0, 0, none, 0), 1);
            CHECKS.refused("1 ahead of 3: hour(0, 0, " + none + ", 2)", x, x.hour(0, 0, none, 2), 1);
            CHECKS.sentence("minutes(): How many MINUTES are GOOD for a SHIP at a SILL. 1.");
            CHECKS.refused("minutes(" + none + ", 0)", x, x.minutes(none, 0), 1);
            CHECKS.refused("minutes(0, " + none + ")", x, x.minutes(0, none), 1);
            CHECKS.sentence("good(): 1: no such SILL or SHIP.");
            CHECKS.refused("good(" + none + ", 0, 300)", x, x.good(none, 0, 300), 1);
            CHECKS.refused("good(0, " + none + ", 300)", x, x.good(0, none, 300), 1);
            CHECKS.sentence("note(): The k-th byte (from 0) of the NOTE of a SILL for a SHIP. 1.");
            CHECKS.refused("note(" + none + ", 0, 0)", x, x.note(none, 0, 0), 1);
            CHECKS.refused("note(0, " + none + ", 0)", x, x.note(0, none, 0), 1);
        }
        for (int k : new int[] {-1, 9, LEAST, MOST}) {
            CHECKS.refused("note(0, 0, " + k + ")", x, x.note(0, 0, k), 1);
        }
        CHECKS.taken("note(0, 0, 0)", x, x.note(0, 0, 0), '0');
        CHECKS.taken("note(0, 0, 8)", x, x.note(0, 0, 8), '0');
        CHECKS.sentence("hour(): The first (0) or last (1) MINUTE of the k-th WINDOW of a SILL for a SHIP. 1; 3.");
        for (int what : new int[] {-1, 2, LEAST, MOST}) {
            CHECKS.refused("hour(0, 0, 0, " + what + ")", x, x.hour(0, 0, 0, what), 3);
        }
        CHECKS.sentence("good(): 1 if t (which may be any number) is a MINUTE of the SILL's PORT that is GOOD, else 0.");
        CHECKS.taken("good at 180", x, x.good(0, 0, 180), 1);
        for (int t : new int[] {179, 541, -1, 721, 99999, 100000, LEAST, MOST}) {
            CHECKS.taken("good at " + t, x, x.good(0, 0, t), 0);
        }
        x = with(ONE_TIDE, "bar -500", "1 0 1");
        CHECKS.taken("good at 0", x, x.good(0, 0, 0), 1);
        CHECKS.taken("good at 720", x, x.good(0, 0, 720), 1);
        CHECKS.taken("good at -1", x, x.good(0, 0, -1), 0);
        CHECKS.taken("good at 721", x, x.good(0, 0, 721), 0);
        x = with(ONE_TIDE, "bar 1200", "1 0 1");
        CHECKS.taken("good of a shut one", x, x.good(0, 0, LEAST), 0);
        CHECKS.taken("hours of a shut one", x, x.hours(0, 0), 0);
        CHECKS.taken("minutes of a shut one", x, x.minutes(0, 0), 0);
        CHECKS.refused("hour of a shut one", x, x.hour(0, 0, 0, 0), 1);
        CHECKS.refused("note of a shut one", x, x.note(0, 0, 4), 1);
    }

    static Checks run() {
        bars();
        gates();
        flaps();
        bridges();
        windowsOfTwoTides();
        faults();
        writtenOnes();
        shutAndOpen();
        notes();
        hoursAsked();
        return CHECKS;
    }

    public static void main(String[] args) {
        run().close();
    }
}
