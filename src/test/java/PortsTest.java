/** Promises 4, 5, 6, 13, 14, 30 (ports) and 31: tables, longer ports, second ports and their faults. */
public final class PortsTest {
    private static final Checks CHECKS = new Checks();

    private static void fault(String text, int fault) {
        Asked x = new Asked();
        CHECKS.refused("port '" + text + "'", x, Checks.port(x, text), 4);
        CHECKS.due("fault() of '" + text + "'", x.fault(), fault);
        CHECKS.due("place() of '" + text + "'", x.place(), SillHours.BAD);
        CHECKS.due("count(0)", x.count(0), 0);
        CHECKS.due("count(4)", x.count(4), 0);
    }

    private static void right(String text, String written) {
        Asked x = new Asked();
        CHECKS.taken("port '" + text + "'", x, Checks.port(x, text), 0);
        CHECKS.due("fault() of '" + text + "'", x.fault(), 0);
        CHECKS.due("written '" + text + "'", Checks.written(x, 0, 0), written);
    }

    private static void tables() {
        right("hw0 0", "hw0000 0");
        right("  hw 2359-0  ", "hw2359 0");
        right("lw 7 - 500", "lw0007 -500");
        right("hw0000 1500", "hw0000 1500");
        right("hw1000 1000", "hw1000 1000");
        right("hw0010 100,lw0110 10,hw0210 999", "hw0010 100,lw0110 10,hw0210 999");
        right("hw0100 0001,lw0200 0", "hw0100 1,lw0200 0");
        right("hw 100 1 , lw 1420 0", "hw0100 1,lw1420 0");
        right("lw2300-5,hw0000-4", "lw2300 -5,hw0000 -4");
        fault("hw 2400 0", 1);
        fault("hw 2360 0", 1);
        fault("hw 60 0", 1);
        fault("hw 9999 9999", 1);
        fault("hw 0 1501", 3);
        fault("hw 0 -501", 3);
        fault("hw 0 9,hw 2400 10", 1);
        fault("hw 0 9,hw 100 9999", 2);
        fault("lw 0 9,lw 100 8", 2);
        fault("hw 0 9,lw 1 -501", 3);
        fault("hw 0 9,lw 1 9", 4);
        fault("lw 0 9,hw 1 9", 4);
        fault("lw 0 9,hw 1 8", 4);
        fault("hw 0 9,lw 1 10", 4);
        fault("hw 100 9,lw 159 8", 5);
        fault("hw 100 9,lw 1421 8", 5);
        fault("hw 100 9,lw 100 8", 5);
        fault("hw 100 9,lw 59 8", 5);
        fault("hw 0 1501,lw 2400 0", 3);
        fault("hw 0 9,lw 100 8,lw 200 9", 2);
    }

    private static void turns() {
        Asked x = new Asked();
        Checks.port(x, "lw2300-5,hw0500 7,lw1100 -9");
        CHECKS.taken("turns(0)", x, x.turns(0), 3);
        CHECKS.taken("turn(0, 0, 0)", x, x.turn(0, 0, 0), 1380);
        CHECKS.taken("turn(0, 1, 0)", x, x.turn(0, 1, 0), 1740);
        CHECKS.taken("turn(0, 2, 0)", x, x.turn(0, 2, 0), 2100);
        CHECKS.taken("turn(0, 2, 1)", x, x.turn(0, 2, 1), -9);
        CHECKS.taken("turn(0, 0, 2)", x, x.turn(0, 0, 2), 0);
        CHECKS.taken("turn(0, 1, 2)", x, x.turn(0, 1, 2), 1);
        CHECKS.refused("turn(0, 1, 3)", x, x.turn(0, 1, 3), 3);
        CHECKS.refused("turn(0, 1, -1)", x, x.turn(0, 1, -1), 3);
        CHECKS.refused("turn(0, 3, 3)", x, x.turn(0, 3, 3), 1);
        CHECKS.refused("turn(0, -1, 0)", x, x.turn(0, -1, 0), 1);
        CHECKS.refused("turn(1, 0, 7)", x, x.turn(1, 0, 7), 1);
        CHECKS.refused("turns(-1)", x, x.turns(-1), 1);
        CHECKS.refused("turns(8)", x, x.turns(8), 1);
    }

    private static void longerPorts() {
        Asked x = new Asked();
        Checks.port(x, "lw2300-5,hw0500 7");
        CHECKS.taken("longer(0)", x, Checks.longer(x, 0, "lw1100-9,hw1700 8"), 1);
        CHECKS.due("written", Checks.written(x, 0, 1), "lw2300 -5,hw0500 7,lw1100 -9,hw1700 8");
        CHECKS.due("turn(1, 3, 0)", x.turn(1, 3, 0), 2460);
        CHECKS.due("the first port stays", Checks.written(x, 0, 0), "lw2300 -5,hw0500 7");
        String[] texts = {"lw2400 0", "hw1100 8", "lw1100-501", "lw1100 7", "lw0559 0", "lw1821 0", "lw0500 0"};
        int[] faults = {1, 2, 3, 4, 5, 5, 5};
        for (int i = 0; i < texts.length; i++) {
            CHECKS.refused("longer(0) " + texts[i], x, Checks.longer(x, 0, texts[i]), 4);
            CHECKS.due("fault() of " + texts[i], x.fault(), faults[i]);
        }
        CHECKS.taken("longer(0)", x, Checks.longer(x, 0, "lw0600 6"), 2);
        CHECKS.taken("longer(0)", x, Checks.longer(x, 0, "lw1820 6"), 3);
        CHECKS.due("turn(3, 2, 0)", x.turn(3, 2, 0), 2540);
        CHECKS.refused("longer(4)", x, Checks.longer(x, 4, "lw0600 6"), 1);
        CHECKS.refused("longer(-1)", x, Checks.longer(x, -1, "lw0600 6"), 1);
    }

    /** Sixteen turns are the most, and a fault is told ahead of no room. */
    private static void sixteenTurns() {
        Asked x = new Asked();
        String eight = "hw0100 9,lw0200 0,hw0300 9,lw0400 0,hw0500 9,lw0600 0,hw0700 9,lw0800 0";
        String more = "hw0900 9,lw1000 0,hw1100 9,lw1200 0,hw1300 9,lw1400 0,hw1500 9,lw1600 0";
        Checks.port(x, eight);
        CHECKS.taken("longer(0)", x, Checks.longer(x, 0, more), 1);
        CHECKS.due("turns(1)", x.turns(1), 16);
        CHECKS.due("turn(1, 15, 0)", x.turn(1, 15, 0), 960);
        CHECKS.due("written", Checks.written(x, 0, 1), eight + "," + more);
        CHECKS.refused("longer(1)", x, Checks.longer(x, 1, "hw1700 9"), 9);
        CHECKS.due("fault()", x.fault(), 0);
        CHECKS.due("place()", x.place(), SillHours.BAD);
        CHECKS.refused("longer(1)", x, Checks.longer(x, 1, "hw1659 9"), 4);
        CHECKS.due("fault()", x.fault(), 5);
        CHECKS.refused("longer(0)", x, Checks.longer(x, 0, more + ",hw1700 9,lw1800 9"), 4);
        CHECKS.due("fault()", x.fault(), 4);
        CHECKS.refused("longer(0)", x, Checks.longer(x, 0, more + ",hw1700 9"), 9);
        String twenty = "hw0 9,lw1 0,hw2 9,lw3 0,hw4 9,lw5 0,hw6 9,lw7 0,hw8 9,lw9 0,"
            + "hw0 9,lw1 0,hw2 9,lw3 0,hw4 9,lw5 0,hw6 9,lw7 0,hw8 9,lw9 0";
        CHECKS.refused("twenty turns", x, Checks.port(x, twenty), 4);
        CHECKS.due("fault()", x.fault(), 5);
        CHECKS.refused("twenty turns, wrong at the end", x, Checks.port(x, twenty.substring(0, 118)), 2);
        CHECKS.due("place()", x.place(), 118);
        String sixteen = "hw0 1,lw1040 0,hw0 1,lw1040 0,hw0 1,lw1040 0,hw0 1,lw1040 0,hw0 1,lw1040 0,hw0 1,lw1040 0,"
            + "hw0 1,lw1040 0,hw0 1,lw1040 0";
        CHECKS.taken("sixteen turns on one tape", x, Checks.port(x, sixteen), 2);
        CHECKS.due("turn(2, 15, 0)", x.turn(2, 15, 0), 7 * 1440 + 640);
    }

    private static void eightPorts() {
        Asked x = new Asked();
        for (int i = 0; i < 8; i++) {
            CHECKS.taken("port()", x, Checks.port(x, "hw0100 9"), i);
        }
        CHECKS.refused("a ninth port", x, Checks.port(x, "hw0100 9"), 9);
        CHECKS.due("count(4)", x.count(4), 0);
        CHECKS.due("count(0)", x.count(0), 8);
        CHECKS.refused("a ninth port", x, Checks.longer(x, 0, "lw0200 8"), 9);
        CHECKS.refused("a ninth port", x, Checks.second(x, 0, "hw+0 1+0 2+0,lw+0 1+0 2+0"), 9);
        CHECKS.refused("a fault ahead of no room", x, Checks.port(x, "hw2400 9"), 4);
        CHECKS.refused("a wrong text ahead of no room", x, Checks.port(x, "hw2400"), 2);
        CHECKS.refused("no such port ahead of no room", x, Checks.longer(x, 8, "lw0200 8"), 1);
    }

    private static void seconds() {
        Asked x = new Asked();
        Checks.port(x, "hw0500 100,lw1100 0,hw1700 107");
        CHECKS.taken("second(0)", x, Checks.second(x, 0, "hw+10 100+10 110+13,lw-20 0-5 10+5"), 1);
        // 107 and 10 + floor(3 * 7 / 10)
        CHECKS.due("written", Checks.written(x, 0, 1), "hw0510 110,lw1040 -5,hw1710 119");
        CHECKS.taken("second(0)", x, Checks.second(x, 0, "hw+10 110+13 100+10,lw-20 10+5 0-5"), 2);
        // 100: 13 + floor(-3 * -10 / -10); 107: 13 + floor(-3 * -3 / -10) = 13 - 1
        CHECKS.due("written", Checks.written(x, 0, 2), "hw0510 110,lw1040 -5,hw1710 119");
        CHECKS.due("same(1, 2)", x.same(1, 2), 1);
        CHECKS.due("same(0, 1)", x.same(0, 1), 0);
        CHECKS.taken("second(0)", x, Checks.second(x, 0, "hw + 0 0 + 0 3 - 1 , lw - 0 - 7 + 0 7 - 0"), 3);
        // 100: floor(-100 / 3) = -34; 107: floor(-107 / 3) = -36
        CHECKS.due("written", Checks.written(x, 0, 3), "hw0500 66,lw1100 0,hw1700 71");
        CHECKS.due("the first port stays", Checks.written(x, 0, 0), "hw0500 100,lw1100 0,hw1700 107");
        CHECKS.taken("longer of a second port", x, Checks.longer(x, 1, "lw2310 0"), 4);
        CHECKS.due("written", Checks.written(x, 0, 4), "hw0510 110,lw1040 -5,hw1710 119,lw2310 0");
    }

    private static void unsound(String base, String text, int fault) {
        Asked x = new Asked();
        CHECKS.due("port '" + base + "'", Checks.port(x, base), 0);
        int got = Checks.second(x, 0, text);
        if (fault == 0) {
            CHECKS.taken("second '" + text + "'", x, got, 1);
        } else {
            CHECKS.refused("second '" + text + "'", x, got, 4);
        }
        CHECKS.due("fault() of '" + text + "' for " + base, x.fault(), fault);
        CHECKS.due("count(0)", x.count(0), fault == 0 ? 2 : 1);
    }

    private static void unsoundSeconds() {
        String base = "hw0500 100,lw1100 0,hw1700 107";
        String low = ",lw+0 0+0 1+0";
        unsound(base, "hw+0 7+0 7+0" + low, 6);
        unsound(base, "hw+0 1+0 2+0,lw+0 5+0 5+0", 6);
        unsound(base, "hw+0 -500+0 1500+0" + low, 0);
        unsound(base, "hw+0 -501+0 1500+0" + low, 6);
        unsound(base, "hw+0 -500+0 1501+0" + low, 6);
        unsound(base, "hw+0 1501+0 1500+0" + low, 6);
        unsound(base, "hw+301 1+0 2+0" + low, 6);
        unsound(base, "hw-301 1+0 2+0" + low, 6);
        unsound(base, "hw+0 1+301 2+0" + low, 6);
        unsound(base, "hw+0 1+0 2-301" + low, 6);
        unsound(base, "hw+300 1+300 2+300" + low, 0);
        unsound(base, "hw-300 1+0 2+0" + low, 0);
        unsound(base, "hw+0 1+0 2+0,lw+0 0-300 1-300", 0);
        unsound(base, "hw+0 1+0 2+0,lw+0 0-301 1-300", 6);
        unsound(base, "hw+0 1+0 2+0,lw-301 0+0 1+0", 6);
        // a fault 6 of the second shift is told, though the first one alone would bring a 7
        unsound(base, "hw+300 1+300 2-300,lw+301 0+0 1+0", 6);
        // the low water comes to the high water's height
        unsound(base, "hw+0 1+0 2+0,lw+0 0+100 1+0", 7);
        unsound(base, "hw+0 1+0 2+0,lw+0 0+99 1+0", 0);
        // gaps of 360 minutes become 60 and 660, 59 and 661
        unsound(base, "hw+300 1+0 2+0" + low, 0);
        unsound(base, "hw+300 1+0 2+0,lw-1 0+0 1+0", 7);
        // the first minute
        unsound("hw0000 9", "hw-0 1+0 2+0" + low, 0);
        unsound("hw0000 9", "hw-1 1+0 2+0" + low, 7);
        unsound("hw2358 9", "hw+1 1+0 2+0" + low, 0);
        unsound("hw2358 9", "hw+2 1+0 2+0" + low, 7);
        // gaps of 800 and 801
        unsound("hw0000 9,lw1319 0", "hw+0 1+0 2+0,lw+1 0+0 1+0", 0);
        unsound("hw0000 9,lw1319 0", "hw+0 1+0 2+0,lw+2 0+0 1+0", 7);
        // heights
        unsound("hw0000 1400", "hw+0 1+100 2+100" + low, 0);
        unsound("hw0000 1400", "hw+0 1+101 2+101" + low, 7);
        unsound("lw0000 -400", "hw+0 1+0 2+0,lw+0 0-100 1-100", 0);
        unsound("lw0000 -400", "hw+0 1+0 2+0,lw+0 0-101 1-101", 7);
    }

    private static void letters() {
        Asked x = new Asked();
        Checks.port(x, "hw0412 530,lw1029 90");
        CHECKS.taken("letter(0, 0, 0)", x, x.letter(0, 0, 0), 'h');
        CHECKS.taken("letter(0, 0, 19)", x, x.letter(0, 0, 19), '0');
        CHECKS.refused("letter(0, 0, 20)", x, x.letter(0, 0, 20), 1);
        CHECKS.refused("letter(0, 0, -1)", x, x.letter(0, 0, -1), 1);
        CHECKS.refused("letter(0, 1, 0)", x, x.letter(0, 1, 0), 1);
        CHECKS.refused("letter(0, -1, 0)", x, x.letter(0, -1, 0), 1);
        CHECKS.refused("letter(1, 0, 0)", x, x.letter(1, 0, 0), 1);
        CHECKS.refused("letter(2, 0, 0)", x, x.letter(2, 0, 0), 1);
        CHECKS.refused("letter(3, 0, 0)", x, x.letter(3, 0, 0), 1);
        CHECKS.refused("letter(4, 9, 0)", x, x.letter(4, 9, 0), 3);
        CHECKS.refused("letter(-1, 0, 99)", x, x.letter(-1, 0, 99), 3);
    }

    private static void sames() {
        Asked x = new Asked();
        Checks.port(x, "hw0412 530,lw1029 90");
        Checks.port(x, " hw 412 0530 , lw 1029 0090");
        Checks.port(x, "hw0412 530,lw1029 91");
        Checks.port(x, "hw0412 530,lw1028 90");
        Checks.port(x, "hw0412 530");
        Checks.port(x, "lw0412 530");
        CHECKS.taken("same(0, 1)", x, x.same(0, 1), 1);
        CHECKS.taken("same(0, 2)", x, x.same(0, 2), 0);
        CHECKS.taken("same(0, 3)", x, x.same(0, 3), 0);
        CHECKS.taken("same(0, 4)", x, x.same(0, 4), 0);
        CHECKS.taken("same(4, 0)", x, x.same(4, 0), 0);
        CHECKS.taken("same(4, 5)", x, x.same(4, 5), 0);
        CHECKS.taken("same(5, 5)", x, x.same(5, 5), 1);
        CHECKS.refused("same(5, 6)", x, x.same(5, 6), 1);
        CHECKS.refused("same(-1, 0)", x, x.same(-1, 0), 1);
    }

    public static void main(String[] args) {
        tables();
        turns();
        longerPorts();
        sixteenTurns();
        eightPorts();
        seconds();
        unsoundSeconds();
        letters();
        sames();
        CHECKS.close();
    }
}
