/** Promises 1, 2, 3, 10, 11, 12 and 32: the tape, where a text is wrong, and the status. */
public final class TapeTest {
    private static final Checks CHECKS = new Checks();

    private static void newObject() {
        Asked x = new Asked();
        CHECKS.due("status()", x.status(), 0);
        CHECKS.due("place()", x.place(), SillHours.BAD);
        CHECKS.due("fault()", x.fault(), 0);
        for (int what = 0; what < 5; what++) {
            CHECKS.taken("count(" + what + ")", x, x.count(what), 0);
        }
        CHECKS.refused("count(-1)", x, x.count(-1), 3);
        CHECKS.refused("count(5)", x, x.count(5), 3);
        CHECKS.refused("turns(0)", x, x.turns(0), 1);
        CHECKS.refused("hours(0, 0)", x, x.hours(0, 0), 1);
        CHECKS.refused("stops(0)", x, x.stops(0), 1);
    }

    private static void feedAndEnd() {
        Asked x = new Asked();
        for (int n = 20; n <= 120; n += 20) {
            CHECKS.taken("feed", x, x.feed(0, 0, 0, 0, 0), n);
        }
        CHECKS.refused("feed beyond 120", x, x.feed(0, 0, 0, 0, 0), 9);
        CHECKS.due("count(4)", x.count(4), 120);
        CHECKS.taken("end(120)", x, x.end(120), 120);
        CHECKS.taken("end(101)", x, x.end(101), 101);
        CHECKS.refused("feed to 121", x, x.feed(0, 0, 0, 0, 0), 9);
        CHECKS.refused("end(102)", x, x.end(102), 3);
        CHECKS.refused("end(-1)", x, x.end(-1), 3);
        CHECKS.refused("end(least)", x, x.end(Integer.MIN_VALUE), 3);
        CHECKS.due("count(4)", x.count(4), 101);
        CHECKS.taken("end(100)", x, x.end(100), 100);
        CHECKS.taken("feed to 120", x, x.feed(0, 0, 0, 0, 0), 120);
        CHECKS.taken("end(0)", x, x.end(0), 0);
        CHECKS.due("the highest byte of each int first", Checks.port(x, "lw2030 17"), 0);
        CHECKS.due("text fed", Checks.written(x, 0, 0), "lw2030 17");
    }

    /** What stays in the tape's row behind end() or a text is no part of the next one. */
    private static void cutBytesAreGone() {
        Asked x = new Asked();
        Checks.put(x, "lw2030 1799");
        x.end(9);
        CHECKS.taken("port()", x, x.port(), 0);
        CHECKS.due("text", Checks.written(x, 0, 0), "lw2030 17");
        Checks.put(x, "lw2030 1");
        x.end(7);
        CHECKS.refused("port()", x, x.port(), 2);
        CHECKS.due("place()", x.place(), 7);
    }

    private static void wrong(char kind, String text, int place) {
        Asked x = new Asked();
        Checks.port(x, "lw0000 0,hw0600 1200,lw1200 0");
        Checks.sill(x, 0, "bar 0");
        Checks.put(x, text);
        int got = kind == 'p' ? x.port() : kind == 'l' ? x.longer(0) : kind == 'd' ? x.second(0)
            : kind == 's' ? x.sill(0) : kind == 'h' ? x.ship() : x.route();
        CHECKS.refused(kind + " '" + text + "'", x, got, 2);
        CHECKS.due("place() of " + kind + " '" + text + "'", x.place(), place);
        CHECKS.due("fault() of " + kind + " '" + text + "'", x.fault(), 0);
        CHECKS.due("count(4) behind it", x.count(4), 0);
        CHECKS.due("count(0) behind it", x.count(0), 1);
        CHECKS.due("count(1) behind it", x.count(1), 1);
        CHECKS.due("count(2) behind it", x.count(2), 0);
        CHECKS.due("count(3) behind it", x.count(3), 0);
    }

    private static void wrongTables() {
        wrong('p', "", 0);
        wrong('p', "   ", 3);
        wrong('p', "hw", 2);
        wrong('p', "hw ", 3);
        wrong('p', " hw 1", 5);
        wrong('p', "hw 1 -", 6);
        wrong('p', "hw 1 - ", 7);
        wrong('p', "hw 1 --2", 6);
        wrong('p', "hw 1 +2", 5);
        wrong('p', "hw 1 2,", 7);
        wrong('p', "hw 1 2 ,  ", 10);
        wrong('p', "hw 1 2 3", 7);
        wrong('p', "hw 1 2 hw", 7);
        wrong('p', "hw 1 2,,lw 3 4", 7);
        wrong('p', "hw12345 6", 2);
        wrong('p', "hw 1 00000", 5);
        wrong('p', "hw 1 2 99999", 7);
        wrong('p', "hwlw 1 2", 0);
        wrong('p', "hwa1 2", 0);
        wrong('p', "hwz1 2", 0);
        wrong('p', "h w 1 2", 0);
        wrong('p', "HW 1 2", 0);
        wrong('p', "hW 1 2", 0);
        wrong('p', "hw 1 2.", 6);
        wrong('p', "hw 1 2\0", 6);
        wrong('p', "hw\t1 2", 2);
        wrong('p', "hw 1 2,hx 3 4", 7);
        wrong('p', "hw 1 2,bar 3 4", 7);
        wrong('p', "bar 5", 0);
        wrong('p', "1 2", 0);
        wrong('p', "\u00ffhw 1 2", 0);
        wrong('l', "hw 1 2,", 7);
        wrong('l', "hw+1 2", 2);
    }

    private static void wrongDifferences() {
        wrong('d', "", 0);
        wrong('d', "lw+0 1+2 3+4,hw+0 1+2 3+4", 0);
        wrong('d', "hw+0 1+2 3+4", 12);
        wrong('d', "hw+0 1+2 3+4,", 13);
        wrong('d', "hw+0 1+2 3+4 lw+0 1+2 3+4", 13);
        wrong('d', "hw+0 1+2 3+4,hw+0 1+2 3+4", 13);
        wrong('d', "hw0 1+2 3+4,lw+0 1+2 3+4", 2);
        wrong('d', "hw+0+1+2 3+4,lw+0 1+2 3+4", 4);
        wrong('d', "hw+0 1 2 3+4,lw+0 1+2 3+4", 7);
        wrong('d', "hw+0 1+2 3+4,lw+0 1+2 3+4,", 25);
        wrong('d', "hw+0 1+2 3+4,lw+0 1+2 3 4", 24);
        wrong('d', "hw+0 1+2 3+4,lw+0 1+2 3+", 24);
    }

    private static void wrongSillsAndShips() {
        wrong('s', "", 0);
        wrong('s', "bar", 3);
        wrong('s', "bar +5", 4);
        wrong('s', "bar 5 6", 6);
        wrong('s', "gate 5", 6);
        wrong('s', "gate 5 6", 8);
        wrong('s', "gate 5 6 7 8", 11);
        wrong('s', "gate 5 -6 7", 7);
        wrong('s', "flap 5 6 -7", 9);
        wrong('s', "flap 5 6", 8);
        wrong('s', "bridge 5 6", 9);
        wrong('s', "bridge", 6);
        wrong('s', "hw 5", 0);
        wrong('s', "bars 5", 0);
        wrong('s', "ba 5", 0);
        wrong('s', "gat 5 6 7", 0);
        wrong('s', "5", 0);
        wrong('h', "", 0);
        wrong('h', "1 2", 3);
        wrong('h', "1 2 3 4", 6);
        wrong('h', "-1 2 3", 0);
        wrong('h', "1 2 3,", 5);
        wrong('h', "1 20000 3", 2);
        wrong('h', "1 2 bar", 4);
    }

    private static void wrongRoutes() {
        wrong('r', "", 0);
        wrong('r', "!", 0);
        wrong('r', "0 0", 2);
        wrong('r', "0!!", 2);
        wrong('r', "0!~1", 2);
        wrong('r', "0~", 2);
        wrong('r', "0~ ", 3);
        wrong('r', "0~+1", 2);
        wrong('r', "0~1!", 3);
        wrong('r', "0/", 2);
        wrong('r', "0/1", 3);
        wrong('r', "0/1/0", 3);
        wrong('r', "0/-1 0", 2);
        wrong('r', "0/1 0 0", 6);
        wrong('r', "0/1 0,", 5);
        wrong('r', "/1 0", 0);
        wrong('r', "0 x", 2);
    }

    /** A right text behind a wrong one has no place; a text that is not read leaves place() and fault() alone. */
    private static void latestText() {
        Asked x = new Asked();
        Checks.port(x, "hw 1");
        CHECKS.due("place()", x.place(), 4);
        Checks.put(x, "bar 5");
        CHECKS.refused("sill(0)", x, x.sill(0), 1);
        CHECKS.due("count(4)", x.count(4), 0);
        CHECKS.due("place() behind an unread text", x.place(), 4);
        Checks.port(x, "hw 2400 5");
        CHECKS.due("place() behind a fault", x.place(), SillHours.BAD);
        CHECKS.due("fault()", x.fault(), 1);
        Checks.put(x, "hw 1");
        CHECKS.refused("longer(0)", x, x.longer(0), 1);
        CHECKS.due("count(4)", x.count(4), 0);
        Checks.put(x, "hw 1");
        CHECKS.refused("second(0)", x, x.second(0), 1);
        CHECKS.due("count(4)", x.count(4), 0);
        CHECKS.due("place() behind an unread text", x.place(), SillHours.BAD);
        CHECKS.due("fault() behind an unread text", x.fault(), 1);
        Checks.ship(x, "1 2 3 4");
        CHECKS.due("fault() behind a wrong text", x.fault(), 0);
        CHECKS.due("place()", x.place(), 6);
        CHECKS.taken("ship()", x, Checks.ship(x, " 1 2 3 "), 0);
        CHECKS.due("place() behind a right text", x.place(), SillHours.BAD);
        CHECKS.due("fault() behind a right text", x.fault(), 0);
    }

    /** place(), fault() and status() are no calls with a status of their own. */
    private static void statusStays() {
        Asked x = new Asked();
        x.end(7);
        x.place();
        x.fault();
        CHECKS.due("status()", x.status(), 3);
        CHECKS.due("status() again", x.status(), 3);
        x.count(0);
        CHECKS.due("status()", x.status(), 0);
        x.turns(3);
        CHECKS.due("status()", x.status(), 1);
        x.feed(0, 0, 0, 0, 0);
        CHECKS.due("status()", x.status(), 0);
    }

    public static void main(String[] args) {
        newObject();
        feedAndEnd();
        cutBytesAreGone();
        wrongTables();
        wrongDifferences();
        wrongSillsAndShips();
        wrongRoutes();
        latestText();
        statusStays();
        CHECKS.close();
    }
}
