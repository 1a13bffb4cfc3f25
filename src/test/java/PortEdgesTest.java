/**
 * The boundary cases of 2 PORTS and of promises 4, 5, 6, 13, 14, 30 (ports) and 31, each sentence of the document by
 * itself.
 */
public final class PortEdgesTest {
    private static final Checks CHECKS = new Checks();
    private static final int[] NO_NUMBERS = {-1, 1, 8, Integer.MIN_VALUE, Integer.MAX_VALUE};

    /** A table of a new object; fault 0 if it is taken. */
    private static Asked table(String text, int fault) {
        Asked x = new Asked();
        CHECKS.judged("port '" + text + "'", x, Checks.port(x, text), 0, 0, fault);
        return x;
    }

    private static Asked longer(String base, String text, int fault) {
        Asked x = table(base, 0);
        CHECKS.judged("longer '" + text + "' of " + base, x, Checks.longer(x, 0, text), 0, 1, fault);
        return x;
    }

    private static Asked second(String base, String text, int fault) {
        Asked x = table(base, 0);
        CHECKS.judged("second '" + text + "' of " + base, x, Checks.second(x, 0, text), 0, 1, fault);
        return x;
    }

    private static void minuteOf(Asked x, int port, int i, int minute) {
        CHECKS.taken("turn(" + port + ", " + i + ", 0)", x, x.turn(port, i, 0), minute);
    }

    private static void written(Asked x, int port, String text) {
        CHECKS.due("port " + port, Checks.written(x, 0, port), text);
    }

    private static void times() {
        CHECKS.sentence("n is the TIME, n / 100 its hour, n % 100 its minute, and SIZE the HEIGHT; a TURN with hw is HIGH.");
        Asked x = table("hw0 -500", 0);
        CHECKS.due("high", x.turn(0, 0, 2), 1);
        CHECKS.due("height", x.turn(0, 0, 1), -500);
        x = table("lw0 1500", 0);
        CHECKS.due("high", x.turn(0, 0, 2), 0);
        CHECKS.due("height", x.turn(0, 0, 1), 1500);
        CHECKS.sentence("The MINUTE of the first TURN is 60 times its hour and its minute");
        minuteOf(table("hw0 0", 0), 0, 0, 0);
        minuteOf(table("hw1 0", 0), 0, 0, 1);
        minuteOf(table("hw59 0", 0), 0, 0, 59);
        minuteOf(table("hw100 0", 0), 0, 0, 60);
        minuteOf(table("hw0959 0", 0), 0, 0, 599);
        minuteOf(table("hw2300 0", 0), 0, 0, 1380);
        minuteOf(table("lw2359 0", 0), 0, 0, 1439);
    }

    private static void minutesBeyondADay() {
        CHECKS.sentence("that of each other TURN is the least number above the MINUTE of the TURN ahead that parts from "
            + "60 times its hour and its minute by a multiple of 1440");
        Asked x = table("lw2300 0,hw0000 9", 0);
        minuteOf(x, 0, 1, 1440);
        written(x, 0, "lw2300 0,hw0000 9");
        x = table("lw2259 0,hw2359 9,lw0059 0", 0);
        minuteOf(x, 0, 1, 1439);
        minuteOf(x, 0, 2, 1499);
        x = table("lw2359 0,hw1319 9,lw0000 0,hw1000 9,lw2320 0,hw0020 9", 0);
        minuteOf(x, 0, 1, 2239);
        minuteOf(x, 0, 2, 2880);
        minuteOf(x, 0, 3, 3480);
        minuteOf(x, 0, 4, 4280);
        minuteOf(x, 0, 5, 4340);
        // the same time again is a day later, a minute earlier almost a day
        table("lw1200 0,hw1200 9", 5);
        table("lw1200 0,hw1159 9", 5);
        table("lw0000 0,hw0000 9", 5);
    }

    private static void faultsOfTimesAndKinds() {
        CHECKS.sentence("1 Its hour is below 24, its minute below 60.");
        for (String right : new String[] {"0000", "0059", "2300", "2359", "1259"}) {
            table("hw" + right + " 0", 0);
        }
        for (String unsound : new String[] {"0060", "0099", "2360", "2400", "2459", "9900", "9959", "9999", "1260"}) {
            table("hw" + unsound + " 0", 1);
            table("lw2200 0,hw" + unsound + " 9", 1);
            longer("lw2200 0", "hw" + unsound + " 9", 1);
        }
        table("lw2200 0,hw2359 9,lw0059 0", 0);
        CHECKS.sentence("2 It is HIGH, if the TURN ahead is not; else it is not.");
        table("lw0000 0,hw0600 9,lw1200 0,hw1800 9", 0);
        table("hw0000 9,lw0600 0,hw1200 9,lw1800 0", 0);
        table("lw0000 9,lw0600 0", 2);
        table("hw0000 0,hw0600 9", 2);
        table("lw0000 0,hw0600 9,hw1200 10", 2);
        table("hw0000 9,lw0600 8,lw1200 7", 2);
    }

    private static void faultsOfHeightsAndGaps() {
        CHECKS.sentence("3 Its HEIGHT is from -500 to 1500.");
        table("lw0000 -500,hw0600 1500,lw1200 -500", 0);
        table("lw0000 1500", 0);
        table("hw0000 -500", 0);
        for (String unsound : new String[] {"-501", "1501", "-9999", "9999"}) {
            table("hw0000 " + unsound, 3);
            table("lw0000 " + unsound, 3);
        }
        table("lw0000 0,hw0600 1501", 3);
        table("hw0000 0,lw0600 -501", 3);
        CHECKS.sentence("4 Its HEIGHT is above that of the TURN ahead, if it is HIGH; else below.");
        table("lw0000 5,hw0600 6", 0);
        table("lw0000 5,hw0600 5", 4);
        table("lw0000 5,hw0600 4", 4);
        table("hw0000 5,lw0600 4", 0);
        table("hw0000 5,lw0600 5", 4);
        table("hw0000 5,lw0600 6", 4);
        table("hw0000 0,lw0600 -0", 4);
        table("hw0000 5,lw0600 4,hw1200 5", 0);
        table("hw0000 5,lw0600 4,hw1200 4", 4);
        CHECKS.sentence("5 Its MINUTE is 60 to 800 above that of the TURN ahead.");
        table("hw0100 5,lw0159 4", 5);
        table("hw0100 5,lw0200 4", 0);
        table("hw0100 5,lw1420 4", 0);
        table("hw0100 5,lw1421 4", 5);
        table("hw2330 5,lw0029 4", 5);
        table("hw2330 5,lw0030 4", 0);
        table("hw2330 5,lw1250 4", 0);
        table("hw2330 5,lw1251 4", 5);
        table("hw2330 5,lw0030 4,hw0129 5", 5);
        table("hw2330 5,lw0030 4,hw0130 5", 0);
        table("hw2330 5,lw0030 4,hw1350 5", 0);
        table("hw2330 5,lw0030 4,hw1351 5", 5);
    }

    private static void severalFaults() {
        CHECKS.sentence("A right TABLE is refused by a FAULT: of the first TURN of which that is, the least number");
        table("hw0000 1501,lw2400 0", 3);
        table("hw0000 9,lw0001 8,lw2400 0", 5);
        table("hw0000 9,lw0600 9,hw1200 9999,hw2400 0", 4);
        table("hw0000 9,hw0600 10,lw2400 0", 2);
        table("hw2400 0,lw0001 9", 1);
        // each with all above it
        table("hw1200 9,hw2400 9999", 1);
        table("hw1200 9,hw1201 9999", 2);
        table("hw1200 9,lw1201 9999", 3);
        table("hw1200 9,lw1201 9", 4);
        table("hw1200 9,lw1201 8", 5);
        table("hw9999 9999", 1);
        CHECKS.sentence("Of the first TURN 2, 4 and 5 are so.");
        for (String kind : new String[] {"hw", "lw"}) {
            table(kind + "0000 -500", 0);
            table(kind + "0000 0", 0);
            table(kind + "2359 1500", 0);
        }
    }

    private static final String TWELVE = "lw0000 0,hw0100 9,lw0200 0,hw0300 9,lw0400 0,hw0500 9,lw0600 0,hw0700 9,lw0800 0,hw0900 9,"
        + "lw1000 0,hw1100 9";
    private static final String THREE_MORE = "lw1200 0,hw1300 9,lw1400 0";

    private static void sixteenTurns() {
        CHECKS.sentence("A PORT has the TURNS (0, 1, ..) of its TABLE, 16 at most.");
        Asked x = new Asked();
        CHECKS.due("twelve turns", Checks.port(x, TWELVE), 0);
        CHECKS.due("fifteen turns", Checks.longer(x, 0, THREE_MORE), 1);
        CHECKS.due("turns(1)", x.turns(1), 15);
        CHECKS.taken("a sixteenth turn", x, Checks.longer(x, 1, "hw1500 9"), 2);
        CHECKS.taken("turns(2)", x, x.turns(2), 16);
        minuteOf(x, 2, 0, 0);
        minuteOf(x, 2, 15, 900);
        CHECKS.refused("turn(2, 16, 0)", x, x.turn(2, 16, 0), 1);
        CHECKS.refused("a seventeenth turn", x, Checks.longer(x, 2, "lw1600 0"), 9);
        CHECKS.refused("two more turns", x, Checks.longer(x, 1, "hw1500 9,lw1600 0"), 9);
        CHECKS.refused("as many as the tape has", x, Checks.longer(x, 2, "lw1600 0,hw1700 9,lw1800 0,hw1900 9,lw2000 0,hw2100 9,"
            + "lw2200 0,hw2300 9,lw0 0,hw100 9,lw200 0,hw300 9,lw400 0"), 9);
        CHECKS.due("fault()", x.fault(), 0);
        CHECKS.due("count(0)", x.count(0), 3);
        // 119 bytes: no tape has a right table of seventeen turns without a fault
        Asked y = table("hw0 1,lw1040 0,hw0 1,lw1040 0,hw0 1,lw1040 0,hw0 1,lw1040 0,hw0 1,lw1040 0,hw0 1,lw1040 0,hw0 1,lw1040 0,"
            + "hw0 1,lw1040 0", 0);
        CHECKS.due("turns(0)", y.turns(0), 16);
        minuteOf(y, 0, 15, 7 * 1440 + 640);
        CHECKS.taken("a second port of sixteen turns", y, Checks.second(y, 0, "hw+0 1+0 2+0,lw+0 1+0 2+0"), 1);
        CHECKS.due("same(0, 1)", y.same(0, 1), 1);
        CHECKS.sentence("a FAULT is told ahead of no room for a seventeenth TURN");
        CHECKS.refused("a fault of the seventeenth", x, Checks.longer(x, 2, "lw1559 0"), 4);
        CHECKS.due("fault()", x.fault(), 5);
        CHECKS.refused("a fault of the eighteenth", x, Checks.longer(x, 2, "lw1600 0,hw1700 0"), 4);
        CHECKS.due("fault()", x.fault(), 4);
        CHECKS.refused("twenty turns", x, Checks.port(x, "hw0 9,lw1 0,".repeat(10).substring(0, 119)), 4);
        CHECKS.due("fault()", x.fault(), 5);
        CHECKS.refused("a fault of the last of thirteen more", x, Checks.longer(x, 2, "lw1600 0,hw1700 9,lw1800 0,hw1900 9,lw2000 0,"
            + "hw2100 9,lw2200 0,hw2300 9,lw0 0,hw100 9,lw200 0,hw300 9,lw400 9"), 4);
        CHECKS.due("fault()", x.fault(), 4);
    }

    private static void longerPorts() {
        CHECKS.sentence("In longer() the TURN ahead of the first one is the last one of the PORT that is told "
            + "(so 2, 4 and 5 are asked of the first one, too)");
        String base = "lw1200 0,hw1800 9";
        longer(base, "hw2200 10", 2);
        longer(base, "lw2200 9", 4);
        longer(base, "lw2200 8", 0);
        longer(base, "lw2200 10", 4);
        longer(base, "lw1859 0", 5);
        longer(base, "lw1900 0", 0);
        longer(base, "lw0720 0", 0);
        longer(base, "lw0721 0", 5);
        longer(base, "lw1800 0", 5);
        longer(base, "lw2400 0", 1);
        longer(base, "lw2200 -501", 3);
        longer("lw1200 9", "lw1800 8", 2);
        longer("lw1200 9", "hw1800 9", 4);
        longer("lw1200 9", "hw1800 10", 0);
        // of the later ones as in port()
        longer(base, "lw2200 0,lw2300 0", 2);
        longer(base, "lw2200 0,hw2259 9", 5);
        CHECKS.sentence("and its MINUTE is reckoned as one of the others");
        Asked x = longer("lw2300 0,hw0500 9", "lw1100 0,hw0000 9", 0);
        minuteOf(x, 1, 1, 1740);
        minuteOf(x, 1, 2, 2100);
        minuteOf(x, 1, 3, 2880);
        x = longer("hw2359 9", "lw0059 0", 0);
        minuteOf(x, 1, 1, 1499);
        x = longer("hw1000 9", "lw1100 0", 0);
        minuteOf(x, 1, 1, 660);
        CHECKS.sentence("the number of a new PORT that has the TURNS of this one, and these behind them");
        x = longer("lw2300 -5,hw0500 7", "lw1100 -9", 0);
        written(x, 0, "lw2300 -5,hw0500 7");
        written(x, 1, "lw2300 -5,hw0500 7,lw1100 -9");
        CHECKS.due("turns(0)", x.turns(0), 2);
        CHECKS.due("turns(1)", x.turns(1), 3);
    }

    private static void secondPorts() {
        CHECKS.sentence("In a SHIFT the first STEP is x, behind it p, u, q, v.");
        Asked x = second("hw0500 100", "hw+7 100+20 300+40,lw+0 1+0 2+0", 0);
        written(x, 1, "hw0507 120");
        x = second("hw0500 300", "hw-7 100+20 300+40,lw+0 1+0 2+0", 0);
        written(x, 1, "hw0453 340");
        x = second("hw0500 500", "hw-7 100+20 300+40,lw+0 1+0 2+0", 0);
        written(x, 1, "hw0453 560");
        CHECKS.sentence("its HEIGHT that one's h and u + Math.floorDiv((v - u) * (h - p), q - p)");
        written(second("hw0500 103", "hw+0 100+0 110-5,lw+0 1+0 2+0", 0), 1, "hw0500 101");
        written(second("hw0500 103", "hw+0 110-5 100+0,lw+0 1+0 2+0", 0), 1, "hw0500 101");
        written(second("hw0500 103", "hw+0 100-5 110+0,lw+0 1+0 2+0", 0), 1, "hw0500 99");
        written(second("hw0500 103", "hw+0 110+0 100-5,lw+0 1+0 2+0", 0), 1, "hw0500 99");
        written(second("lw0500 -3", "hw+0 1+0 2+0,lw+0 0+0 2+1", 0), 1, "lw0500 -5");
        written(second("lw0500 -3", "hw+0 1+0 2+0,lw+0 0+0 2-1", 0), 1, "lw0500 -2");
        // (300 - -300) * (1500 - -500): the greatest product
        written(second("hw0500 1500", "hw+0 -500-300 1499-300,lw+0 1+0 2+0", 0), 1, "hw0500 1200");
        second("hw0500 1500", "hw+0 -500-300 1500+300,lw+0 1+0 2+0", 7);
        written(second("hw0500 1500", "hw+0 -500+300 1500-300,lw+0 1+0 2+0", 0), 1, "hw0500 1200");
        // p and q next to each other, either way round
        written(second("hw0500 100", "hw+0 100+10 101+20,lw+0 1+0 2+0", 0), 1, "hw0500 110");
        written(second("hw0500 100", "hw+0 101+10 100+20,lw+0 1+0 2+0", 0), 1, "hw0500 120");
        written(second("hw0500 100", "hw+0 100+20 99+10,lw+0 1+0 2+0", 0), 1, "hw0500 120");
        written(second("hw0500 100", "hw+0 99+10 100+20,lw+0 1+0 2+0", 0), 1, "hw0500 120");
        CHECKS.sentence("of a HIGH one by the SHIFT behind hw, else by that behind lw");
        x = second("lw0500 0,hw1100 100,lw1700 2", "hw+9 0+10 1+10,lw-8 0-7 1-7", 0);
        written(x, 1, "lw0452 -7,hw1109 110,lw1652 -5");
        written(x, 0, "lw0500 0,hw1100 100,lw1700 2");
    }

    /** The numbers of a shift, x p u q v, one of them changed; h is p, so that only u shifts the height. */
    private static String shift(int place, int value) {
        int[] numbers = {0, 500, 0, 100, 0};
        if (place >= 0) {
            numbers[place] = value;
        }
        StringBuilder text = new StringBuilder();
        for (int i = 0; i < 5; i++) {
            String ahead = numbers[i] < 0 ? "-" : i % 2 == 0 ? "+" : " ";
            text.append(ahead).append(Math.abs(numbers[i]));
        }
        return text.toString();
    }

    private static void bothShifts(int place, int value, int fault) {
        second("hw1200 500", "hw" + shift(place, value) + ",lw" + shift(-1, 0), fault);
        second("hw1200 500", "hw" + shift(-1, 0) + ",lw" + shift(place, value), fault);
        second("lw1200 500", "hw" + shift(place, value) + ",lw" + shift(-1, 0), fault);
        second("lw1200 500", "hw" + shift(-1, 0) + ",lw" + shift(place, value), fault);
    }

    private static void faultSix() {
        CHECKS.sentence("6 Of both SHIFTS p and q are from -500 to 1500");
        for (int place : new int[] {1, 3}) {
            bothShifts(place, -500, 0);
            bothShifts(place, 1500, 0);
            bothShifts(place, -501, 6);
            bothShifts(place, 1501, 6);
            bothShifts(place, -9999, 6);
            bothShifts(place, 9999, 6);
        }
        CHECKS.sentence("6 p and q are unlike");
        bothShifts(1, 100, 6);
        bothShifts(3, 500, 6);
        bothShifts(3, 499, 0);
        bothShifts(3, 501, 0);
        CHECKS.sentence("6 x, u and v are from -300 to 300");
        for (int place : new int[] {0, 2, 4}) {
            bothShifts(place, -300, 0);
            bothShifts(place, 300, 0);
            bothShifts(place, -301, 6);
            bothShifts(place, 301, 6);
            bothShifts(place, 9999, 6);
            bothShifts(place, -9999, 6);
        }
        CHECKS.sentence("Right DIFFERENCES are refused by the least FAULT");
        second("hw0000 500", "hw-301 500+0 100+0,lw+0 1+0 2+0", 6);
        second("hw0000 500", "hw-300 500+0 100+0,lw+0 1+0 2+301", 6);
        second("hw0000 500", "hw-300 500+0 100+0,lw+0 2+0 2+0", 6);
        second("hw0000 500", "hw-300 500+0 100+0,lw+0 1+0 2+0", 7);
    }

    private static String steps(String high, String low) {
        return "hw" + high + ",lw" + low;
    }

    /** A shift by x minutes and u of height, whatever the height was. */
    private static String by(int x, int u) {
        String step = (u < 0 ? "" : "+") + u;
        return (x < 0 ? "" : "+") + x + " 0" + step + " 1" + step;
    }

    private static void faultSeven() {
        CHECKS.sentence("7 Of all TURNS that come of it 3 is so");
        second("hw0000 1400", steps(by(0, 100), by(0, 0)), 0);
        second("hw0000 1400", steps(by(0, 101), by(0, 0)), 7);
        second("lw0000 -400", steps(by(0, 0), by(0, -100)), 0);
        second("lw0000 -400", steps(by(0, 0), by(0, -101)), 7);
        second("lw0000 0,hw0600 1400", steps(by(0, 101), by(0, 0)), 7);
        second("hw0000 0,lw0600 -400", steps(by(0, 0), by(0, -101)), 7);
        CHECKS.sentence("7 Of all TURNS that come of it 4 is so");
        second("lw0000 0,hw0600 10", steps(by(0, 0), by(0, 9)), 0);
        second("lw0000 0,hw0600 10", steps(by(0, 0), by(0, 10)), 7);
        second("hw0000 10,lw0600 0", steps(by(0, -9), by(0, 0)), 0);
        second("hw0000 10,lw0600 0", steps(by(0, -10), by(0, 0)), 7);
        second("hw0000 100,lw0600 0,hw1200 10", steps(by(0, 0), by(0, 10)), 7);
        second("hw0000 100,lw0600 0,hw1200 10", steps(by(0, 0), by(0, 9)), 0);
        CHECKS.sentence("7 Of all TURNS that come of it 5 is so");
        second("lw0000 0,hw0600 10", steps(by(-300, 0), by(0, 0)), 0);
        second("lw0000 0,hw0600 10", steps(by(-300, 0), by(1, 0)), 7);
        second("lw0000 0,hw1300 10", steps(by(20, 0), by(0, 0)), 0);
        second("lw0000 0,hw1300 10", steps(by(21, 0), by(0, 0)), 7);
        second("lw0000 0,hw0600 10,lw1920 0", steps(by(0, 0), by(0, 0)), 0);
        second("lw0000 0,hw0600 10,lw1919 0", steps(by(0, 0), by(2, 0)), 7);
        // the turns of a second port keep their order, even where their minutes would not
        second("lw0500 0,hw0600 10", steps(by(-300, 0), by(300, 0)), 7);
        CHECKS.sentence("7 the MINUTE of the first one is from 0 to 1439");
        second("hw0005 9", steps(by(-5, 0), by(0, 0)), 0);
        second("hw0005 9", steps(by(-6, 0), by(0, 0)), 7);
        second("lw2354 9", steps(by(0, 0), by(5, 0)), 0);
        second("lw2354 9", steps(by(0, 0), by(6, 0)), 7);
        Asked x = second("lw1800 0,hw2359 10", steps(by(1, 0), by(0, 0)), 0);
        minuteOf(x, 1, 1, 1440);
        written(x, 1, "lw1800 0,hw0000 10");
    }

    private static void writtenPorts() {
        CHECKS.sentence("A PORT is WRITTEN as its TURNS, with , between each two and nothing else, each of them hw or lw, its TIME in four "
            + "digits, a BLANK, its HEIGHT.");
        written(table(" hw 7 0 ", 0), 0, "hw0007 0");
        written(table("hw100 9,lw959 - 9 , hw1100 10", 0), 0, "hw0100 9,lw0959 -9,hw1100 10");
        CHECKS.sentence("(of the MINUTE t: t / 60 % 24 and t % 60, two digits each)");
        written(table("hw2359 9,lw0100 8,hw1420 9,lw0000 0", 0), 0, "hw2359 9,lw0100 8,hw1420 9,lw0000 0");
        written(second("hw0959 9", steps(by(1, 0), by(0, 0)), 0), 1, "hw1000 9");
        written(second("hw1000 9", steps(by(-1, 0), by(0, 0)), 0), 1, "hw0959 9");
        CHECKS.sentence("numbers have no noughts ahead, but in a TIME; those below 0 have - ahead");
        written(table("lw0001 -0,hw0101 0001,lw0201 -0001", 0), 0, "lw0001 0,hw0101 1,lw0201 -1");
        written(table("lw0000 -0010,hw0600 0100,lw1200 -0100,hw1800 1000", 0), 0, "lw0000 -10,hw0600 100,lw1200 -100,hw1800 1000");
        written(table("lw0000 -500,hw0600 1500", 0), 0, "lw0000 -500,hw0600 1500");
        written(table("lw0000 9,hw0600 99,lw1200 10,hw1800 999", 0), 0, "lw0000 9,hw0600 99,lw1200 10,hw1800 999");
        CHECKS.sentence("letter(): The k-th byte (from 0) of a PORT (what 0). 3: what is none of these; 1.");
        Asked x = table("hw0412 530", 0);
        CHECKS.taken("letter(0, 0, 0)", x, x.letter(0, 0, 0), 'h');
        CHECKS.taken("letter(0, 0, 9)", x, x.letter(0, 0, 9), '0');
        for (int k : new int[] {-1, 10, 11, Integer.MIN_VALUE, Integer.MAX_VALUE}) {
            CHECKS.refused("letter(0, 0, " + k + ")", x, x.letter(0, 0, k), 1);
        }
        for (int none : NO_NUMBERS) {
            CHECKS.refused("letter(0, " + none + ", 0)", x, x.letter(0, none, 0), 1);
        }
        for (int what : new int[] {-1, 4, 5, Integer.MIN_VALUE, Integer.MAX_VALUE}) {
            CHECKS.refused("letter(" + what + ", 0, 0)", x, x.letter(what, 0, 0), 3);
            CHECKS.refused("3 ahead of 1: letter(" + what + ", 9, -1)", x, x.letter(what, 9, -1), 3);
        }
    }

    private static void turnsAsked() {
        CHECKS.sentence("turns(): How many TURNS a PORT has. 1.");
        Asked x = table("lw0000 0,hw0600 9", 0);
        CHECKS.taken("turns(0)", x, x.turns(0), 2);
        for (int none : NO_NUMBERS) {
            CHECKS.refused("turns(" + none + ")", x, x.turns(none), 1);
        }
        CHECKS.sentence("turn(): Of the i-th TURN of a PORT: 0 its MINUTE, 1 its HEIGHT, 2 whether it is HIGH (1, else 0). 1; 3.");
        CHECKS.taken("turn(0, 1, 0)", x, x.turn(0, 1, 0), 360);
        CHECKS.taken("turn(0, 1, 1)", x, x.turn(0, 1, 1), 9);
        CHECKS.taken("turn(0, 1, 2)", x, x.turn(0, 1, 2), 1);
        CHECKS.taken("turn(0, 0, 2)", x, x.turn(0, 0, 2), 0);
        for (int i : new int[] {-1, 2, 16, Integer.MIN_VALUE, Integer.MAX_VALUE}) {
            CHECKS.refused("turn(0, " + i + ", 0)", x, x.turn(0, i, 0), 1);
            CHECKS.refused("1 ahead of 3: turn(0, " + i + ", 3)", x, x.turn(0, i, 3), 1);
        }
        for (int none : NO_NUMBERS) {
            CHECKS.refused("turn(" + none + ", 0, 0)", x, x.turn(none, 0, 0), 1);
            CHECKS.refused("1 ahead of 3: turn(" + none + ", 0, 3)", x, x.turn(none, 0, 3), 1);
        }
        for (int what : new int[] {-1, 3, Integer.MIN_VALUE, Integer.MAX_VALUE}) {
            CHECKS.refused("turn(0, 1, " + what + ")", x, x.turn(0, 1, what), 3);
        }
    }

    private static void sames() {
        CHECKS.sentence("same(): 1 if two PORTS are WRITTEN the same, else 0. 1.");
        Asked x = new Asked();
        String[] ports = {"hw0412 530,lw1029 90", " hw 412 0530,lw1029 0090 ", "hw0412 530,lw1029 91", "hw0412 530,lw1028 90",
            "hw0412 530", "lw0412 530", "hw0412 531,lw1029 90", "hw0412 530,lw1029 90,hw1700 91"};
        for (String text : ports) {
            Checks.port(x, text);
        }
        for (int one = 0; one < 8; one++) {
            for (int other = 0; other < 8; other++) {
                boolean same = one == other || one + other == 1;
                CHECKS.taken("same(" + one + ", " + other + ")", x, x.same(one, other), same ? 1 : 0);
            }
        }
        for (int none : new int[] {-1, 8, Integer.MIN_VALUE, Integer.MAX_VALUE}) {
            CHECKS.refused("same(0, " + none + ")", x, x.same(0, none), 1);
            CHECKS.refused("same(" + none + ", 0)", x, x.same(none, 0), 1);
            CHECKS.refused("same(" + none + ", " + none + ")", x, x.same(none, none), 1);
        }
        // one told by a table, one by longer(), one by second()
        x = longer("hw0412 530", "lw1029 90", 0);
        Checks.port(x, "hw0412 530,lw1029 90");
        Checks.second(x, 2, "hw+0 0+0 1+0,lw+0 0+0 1+0");
        CHECKS.taken("same(1, 2)", x, x.same(1, 2), 1);
        CHECKS.taken("same(1, 3)", x, x.same(1, 3), 1);
        CHECKS.taken("same(0, 1)", x, x.same(0, 1), 0);
    }

    static Checks run() {
        times();
        minutesBeyondADay();
        faultsOfTimesAndKinds();
        faultsOfHeightsAndGaps();
        severalFaults();
        sixteenTurns();
        longerPorts();
        secondPorts();
        faultSix();
        faultSeven();
        writtenPorts();
        turnsAsked();
        sames();
        return CHECKS;
    }

    public static void main(String[] args) {
        run().close();
    }
}
