import java.util.ArrayList;
import java.util.LinkedHashMap;
import java.util.List;
import java.util.Map;

/**
 * The boundary cases of 6 STATUS and of promises 1, 10, 11, 12 and 32, each sentence of the document by itself: refused
 * calls of every kind, what they leave alone, which number is told first, and how many there can be.
 */
public final class StatusEdgesTest {
    private static final Checks CHECKS = new Checks();
    private static final String KINDS = "pldshr";
    /** For each of KINDS a text that is taken, one that is wrong (and would have a fault), one that has a fault. */
    private static final String[] RIGHT = {"hw0 0", "hw1800 5", "hw+0 0+0 1+0,lw+0 0+0 1+0", "bar 5", "1 2 3", "0"};
    private static final String[] WRONG = {"hw2400 0 7", "hw2400 5 7", "hw+999 0+0 1+0,lw+0 0+0 1+0,", "bar 9999 7", "0 2 3 7", "99 7"};
    private static final int[] WRONG_PLACES = {9, 9, 27, 9, 6, 3};
    private static final String[] UNSOUND = {"hw2400 0", "hw1801 0", "hw+999 0+0 1+0,lw+0 0+0 1+0", "bar 9999", "0 2 3", "99"};
    private static final int[] FAULTS = {1, 4, 6, 8, 9, 10};
    /** The tape of the ships' text, so long that no feed has room. */
    private static final String LONG_SHIP = "1 2 3" + " ".repeat(96);

    private interface Call {
        int ask(Asked x);
    }

    private static boolean wantsPort(char kind) {
        return kind == 'l' || kind == 'd' || kind == 's';
    }

    /** All that can be seen of harbour()'s, but for the tape. */
    private static String seen(Asked x) {
        StringBuilder all = new StringBuilder();
        for (int what = 0; what < 4; what++) {
            all.append(x.count(what)).append(' ').append(Checks.written(x, what, 0)).append('|');
        }
        all.append(x.turns(0)).append(' ').append(x.turn(0, 1, 0)).append(' ').append(x.water(0, 61)).append(' ');
        all.append(Checks.note(x, 0, 0)).append(' ').append(x.leg(0, 0, 0)).append(' ').append(x.arrive(0, 0, 5));
        return all.toString();
    }

    private static void newObject() {
        CHECKS.sentence("SillHours(): No PORTS, SILLS, SHIPS, ROUTES; an empty TAPE.");
        Asked x = new Asked();
        for (int what = 0; what < 5; what++) {
            CHECKS.taken("count(" + what + ")", x, x.count(what), 0);
        }
        CHECKS.refused("turns(0)", x, x.turns(0), 1);
        CHECKS.refused("turn(0, 0, 0)", x, x.turn(0, 0, 0), 1);
        CHECKS.refused("water(0, 0)", x, x.water(0, 0), 1);
        CHECKS.refused("hours(0, 0)", x, x.hours(0, 0), 1);
        CHECKS.refused("note(0, 0, 0)", x, x.note(0, 0, 0), 1);
        CHECKS.refused("stops(0)", x, x.stops(0), 1);
        CHECKS.refused("same(0, 0)", x, x.same(0, 0), 1);
        for (int what = 0; what < 4; what++) {
            CHECKS.refused("letter(" + what + ", 0, 0)", x, x.letter(what, 0, 0), 1);
        }
        CHECKS.refused("end(1)", x, x.end(1), 3);
        CHECKS.taken("end(0)", x, x.end(0), 0);
        CHECKS.taken("the first ship", x, Checks.ship(x, "1 2 3"), 0);
        CHECKS.sentence("status(): 0 ahead of any call.");
        CHECKS.due("status()", new Asked().status(), 0);
        CHECKS.sentence("place(): BAD if it was not, and ahead of one.");
        CHECKS.due("place()", new Asked().place(), SillHours.BAD);
        CHECKS.sentence("fault(): 0 if it had none, and ahead of one.");
        CHECKS.due("fault()", new Asked().fault(), 0);
        x = new Asked();
        Checks.put(x, "bar 5");
        CHECKS.refused("sill(0), unread", x, x.sill(0), 1);
        CHECKS.due("place() ahead of one", x.place(), SillHours.BAD);
        CHECKS.due("fault() ahead of one", x.fault(), 0);
        for (char kind : "phr".toCharArray()) {
            CHECKS.sentence("place(): a text that lacks all is WRONG at the TAPE's length");
            x = new Asked();
            CHECKS.refused("an empty text of " + kind, x, Checks.call(x, kind, 0), 2);
            CHECKS.due("place()", x.place(), 0);
        }
    }

    private static void counts() {
        CHECKS.sentence("count(): How many PORTS (0), SILLS (1), SHIPS (2), ROUTES (3); bytes of the TAPE (4). 3.");
        Asked x = new Asked();
        Checks.port(x, Checks.ONE_TIDE);
        for (int i = 0; i < 2; i++) {
            Checks.sill(x, 0, "bar 0");
        }
        for (int i = 0; i < 3; i++) {
            Checks.ship(x, "1 2 3");
        }
        for (int i = 0; i < 4; i++) {
            Checks.route(x, "0");
        }
        Checks.put(x, "12345");
        for (int what = 0; what < 5; what++) {
            CHECKS.taken("count(" + what + ")", x, x.count(what), what + 1);
        }
        for (int what : new int[] {-1, 5, Integer.MIN_VALUE, Integer.MAX_VALUE}) {
            CHECKS.refused("count(" + what + ")", x, x.count(what), 3);
        }
    }

    /** Refused questions, and the number of each. */
    private static Map<Call, Integer> refusedQuestions() {
        Map<Call, Integer> all = new LinkedHashMap<>();
        all.put(x -> x.feed(0, 0, 0, 0, 0), 9);
        all.put(x -> x.end(-1), 3);
        all.put(x -> x.end(102), 3);
        all.put(x -> x.count(5), 3);
        all.put(x -> x.turns(1), 1);
        all.put(x -> x.turn(1, 0, 0), 1);
        all.put(x -> x.turn(0, 3, 0), 1);
        all.put(x -> x.turn(0, 0, 3), 3);
        all.put(x -> x.water(1, 0), 1);
        all.put(x -> x.water(0, 721), 1);
        all.put(x -> x.above(1, 0, 0), 1);
        all.put(x -> x.above(0, -1, 0), 1);
        all.put(x -> x.above(0, 0, 10000), 3);
        all.put(x -> x.rise(1, 0, 0), 1);
        all.put(x -> x.rise(0, 10000, 0), 3);
        all.put(x -> x.ebb(1, 0, 0), 1);
        all.put(x -> x.ebb(0, 10000, 0), 3);
        all.put(x -> x.hours(1, 0), 1);
        all.put(x -> x.hours(0, 1), 1);
        all.put(x -> x.hour(1, 0, 0, 0), 1);
        all.put(x -> x.hour(0, 1, 0, 0), 1);
        all.put(x -> x.hour(0, 0, 1, 0), 1);
        all.put(x -> x.hour(0, 0, 0, 2), 3);
        all.put(x -> x.minutes(1, 0), 1);
        all.put(x -> x.minutes(0, 1), 1);
        all.put(x -> x.good(1, 0, 0), 1);
        all.put(x -> x.good(0, 1, 0), 1);
        all.put(x -> x.note(1, 0, 0), 1);
        all.put(x -> x.note(0, 1, 0), 1);
        all.put(x -> x.note(0, 0, 99), 1);
        all.put(x -> x.stops(1), 1);
        all.put(x -> x.leg(1, 0, 0), 1);
        all.put(x -> x.leg(0, 1, 0), 1);
        all.put(x -> x.leg(0, 0, 1), 1);
        all.put(x -> x.arrive(1, 0, 0), 1);
        all.put(x -> x.arrive(0, 1, 0), 1);
        all.put(x -> x.arrive(0, 0, -1), 3);
        all.put(x -> x.pass(1, 0, 0, 0), 1);
        all.put(x -> x.pass(0, 1, 0, 0), 1);
        all.put(x -> x.pass(0, 0, 0, 1), 1);
        all.put(x -> x.pass(0, 0, -1, 0), 3);
        all.put(x -> x.waits(1, 0, 0), 1);
        all.put(x -> x.waits(0, 1, 0), 1);
        all.put(x -> x.waits(0, 0, -1), 3);
        all.put(x -> x.start(1, 0, 0), 1);
        all.put(x -> x.start(0, 1, 0), 1);
        all.put(x -> x.start(0, 0, -1), 3);
        all.put(x -> x.letter(4, 0, 0), 3);
        all.put(x -> x.letter(0, 1, 0), 1);
        all.put(x -> x.letter(0, 0, 99), 1);
        all.put(x -> x.same(0, 1), 1);
        all.put(x -> x.same(1, 0), 1);
        return all;
    }

    private static void refusedQuestionsChangeNothing() {
        CHECKS.sentence("a refused call, which answers BAD and changes nothing else");
        String before = seen(Checks.harbour());
        int number = 0;
        for (Map.Entry<Call, Integer> entry : refusedQuestions().entrySet()) {
            number++;
            String what = "refused question " + number;
            Asked x = Checks.harbour();
            // the latest text read has a place or a fault of its own
            boolean hasPlace = number % 2 == 0;
            Checks.port(x, hasPlace ? "hw 1 2 3" : "hw 1 1501");
            Checks.put(x, LONG_SHIP);
            CHECKS.refused(what, x, entry.getKey().ask(x), entry.getValue());
            CHECKS.due("place() behind " + what, x.place(), hasPlace ? 7 : SillHours.BAD);
            CHECKS.due("fault() behind " + what, x.fault(), hasPlace ? 0 : 3);
            CHECKS.due("status() behind place() and fault()", x.status(), entry.getValue());
            CHECKS.due("seen behind " + what, seen(x), before);
            CHECKS.due("count(4) behind " + what, x.count(4), 101);
            CHECKS.taken("the tape behind " + what, x, x.ship(), 1);
            CHECKS.due("the ship of it", Checks.written(x, 2, 1), "1 2 3");
        }
    }

    private static void refusedTextsChangeNothing() {
        String before = seen(Checks.harbour());
        for (int i = 0; i < KINDS.length(); i++) {
            char kind = KINDS.charAt(i);
            CHECKS.sentence("2 the text is WRONG");
            Asked x = Checks.harbour();
            CHECKS.refused(WRONG[i], x, Checks.read(x, kind, 0, WRONG[i]), 2);
            CHECKS.due("place() of " + WRONG[i], x.place(), WRONG_PLACES[i]);
            CHECKS.due("seen behind " + WRONG[i], seen(x), before);
            CHECKS.sentence("4 a FAULT");
            x = Checks.harbour();
            CHECKS.refused(UNSOUND[i], x, Checks.read(x, kind, 0, UNSOUND[i]), 4);
            CHECKS.due("fault() of " + UNSOUND[i], x.fault(), FAULTS[i]);
            CHECKS.due("seen behind " + UNSOUND[i], seen(x), before);
            CHECKS.taken("the next one is number 1", x, Checks.read(x, kind, 0, RIGHT[i]), 1);
            CHECKS.sentence("1 no such PORT");
            for (int port : new int[] {-1, 1, 8, Integer.MIN_VALUE, Integer.MAX_VALUE}) {
                if (wantsPort(kind)) {
                    x = Checks.harbour();
                    CHECKS.refused(kind + " of port " + port, x, Checks.read(x, kind, port, RIGHT[i]), 1);
                    CHECKS.due("seen behind it", seen(x), before);
                }
            }
        }
    }

    /** 8 ports, 12 sills, 6 ships and 8 routes. */
    private static Asked full() {
        Asked x = new Asked();
        CHECKS.taken("port 0", x, Checks.port(x, Checks.ONE_TIDE), 0);
        CHECKS.taken("port 1 by longer()", x, Checks.longer(x, 0, "hw1800 5"), 1);
        CHECKS.taken("port 2 by second()", x, Checks.second(x, 0, RIGHT[2]), 2);
        for (int i = 3; i < 8; i++) {
            CHECKS.taken("port " + i, x, i == 7 ? Checks.second(x, 0, RIGHT[2]) : i == 6 ? Checks.longer(x, 0, "hw1800 5")
                : Checks.port(x, "hw0 " + i), i);
        }
        for (int i = 0; i < 12; i++) {
            CHECKS.taken("sill " + i, x, Checks.sill(x, 0, "bar " + i), i);
        }
        for (int i = 0; i < 6; i++) {
            CHECKS.taken("ship " + i, x, Checks.ship(x, "1 " + i + " 3"), i);
        }
        for (int i = 0; i < 8; i++) {
            CHECKS.taken("route " + i, x, Checks.route(x, Integer.toString(i + 4)), i);
        }
        return x;
    }

    private static void noRoom() {
        CHECKS.sentence("9 no room: there are 8 PORTS, 12 SILLS, 6 SHIPS, 8 ROUTES at most (each from 0 on)");
        Asked x = full();
        for (int i = 0; i < KINDS.length(); i++) {
            char kind = KINDS.charAt(i);
            CHECKS.refused("one more of " + kind, x, Checks.read(x, kind, 0, RIGHT[i]), 9);
        }
        int[] most = {8, 12, 6, 8};
        for (int what = 0; what < 4; what++) {
            CHECKS.taken("count(" + what + ")", x, x.count(what), most[what]);
            CHECKS.refused("letter of one more", x, x.letter(what, most[what], 0), 1);
        }
        CHECKS.taken("turns(7)", x, x.turns(7), 3);
        CHECKS.refused("turns(8)", x, x.turns(8), 1);
        CHECKS.taken("hours(11, 5)", x, x.hours(11, 5), 1);
        CHECKS.refused("hours(12, 5)", x, x.hours(12, 5), 1);
        CHECKS.refused("hours(11, 6)", x, x.hours(11, 6), 1);
        CHECKS.taken("stops(7)", x, x.stops(7), 1);
        CHECKS.refused("stops(8)", x, x.stops(8), 1);
        CHECKS.due("sill 11", Checks.written(x, 1, 11), "bar 11");
        CHECKS.due("ship 5", Checks.written(x, 2, 5), "1 5 3");
        CHECKS.due("route 7", Checks.written(x, 3, 7), "11");
        x = full();
        CHECKS.refused("a route with sill 12", x, Checks.route(x, "12"), 4);
    }

    private static void noRoomBesidesOthers() {
        CHECKS.sentence("each of PORTS, SILLS, SHIPS and ROUTES has its own room");
        Asked x = Checks.harbour();
        for (int i = 1; i < 6; i++) {
            CHECKS.taken("ship", x, Checks.ship(x, "1 2 3"), i);
        }
        CHECKS.refused("a seventh ship", x, Checks.ship(x, "1 2 3"), 9);
        CHECKS.taken("a second sill", x, Checks.sill(x, 0, "bar 5"), 1);
        CHECKS.taken("a second port", x, Checks.port(x, "hw0 0"), 1);
        CHECKS.taken("a second route", x, Checks.route(x, "0"), 1);
    }

    private static void firstAsTold() {
        Asked x = full();
        for (int i = 0; i < KINDS.length(); i++) {
            char kind = KINDS.charAt(i);
            CHECKS.sentence("Of several the first as told with the call: 2 ahead of 4 and 9");
            CHECKS.refused("2 ahead of 4 and 9 of " + kind, x, Checks.read(x, kind, 0, WRONG[i]), 2);
            CHECKS.due("fault() of a wrong text", x.fault(), 0);
            CHECKS.sentence("Of several the first as told with the call: 4 ahead of 9");
            CHECKS.refused("4 ahead of 9 of " + kind, x, Checks.read(x, kind, 0, UNSOUND[i]), 4);
            CHECKS.due("fault()", x.fault(), FAULTS[i]);
            CHECKS.due("place()", x.place(), SillHours.BAD);
            if (wantsPort(kind)) {
                CHECKS.sentence("Of several the first as told with the call: 1 ahead of 2, 4 and 9");
                CHECKS.refused("1 ahead of 9 of " + kind, x, Checks.read(x, kind, 8, RIGHT[i]), 1);
                CHECKS.refused("1 ahead of 4 of " + kind, x, Checks.read(x, kind, 8, UNSOUND[i]), 1);
                CHECKS.refused("1 ahead of 2 of " + kind, x, Checks.read(x, kind, -1, WRONG[i]), 1);
            }
        }
    }

    /** Text calls by what comes of them: 0 taken, 1, 2, 4, 9. */
    private static int readFor(int outcome, Asked x, int i) {
        char kind = KINDS.charAt(i);
        String text = outcome == 2 ? WRONG[i] : outcome == 4 ? UNSOUND[i] : RIGHT[i];
        int got = Checks.read(x, kind, outcome == 1 ? 9 : 0, text);
        CHECKS.due(kind + " '" + text + "'", got, outcome == 0 ? 1 : SillHours.BAD);
        CHECKS.due("status() of " + kind + " '" + text + "'", x.status(), outcome);
        return got;
    }

    private static void tapeIsEmptyBehind() {
        CHECKS.sentence("The TAPE is empty behind port(), longer(), second(), sill(), ship() and route(), taken or refused, by whatever");
        for (int i = 0; i < KINDS.length(); i++) {
            for (int outcome : new int[] {0, 1, 2, 4, 9}) {
                if (outcome == 1 && !wantsPort(KINDS.charAt(i))) {
                    continue;
                }
                Asked x = outcome == 9 ? full() : Checks.harbour();
                readFor(outcome, x, i);
                CHECKS.taken("count(4) behind " + KINDS.charAt(i) + " " + outcome, x, x.count(4), 0);
                CHECKS.taken("feed behind it", x, x.feed(0x62617220, 0x35202020, 0x20202020, 0x20202020, 0x20202020), 20);
                CHECKS.refused("the next text is the fed one alone", x, x.ship(), 2);
                CHECKS.due("place()", x.place(), 0);
                CHECKS.refused("the next one is empty", x, x.ship(), 2);
                CHECKS.due("place()", x.place(), 0);
            }
        }
    }

    private static void unreadTexts() {
        CHECKS.sentence("refused by a 1 they read no text");
        for (int i = 0; i < KINDS.length(); i++) {
            if (!wantsPort(KINDS.charAt(i))) {
                continue;
            }
            for (String text : new String[] {RIGHT[i], WRONG[i], UNSOUND[i], ""}) {
                Asked x = Checks.harbour();
                Checks.ship(x, "1 2 3 4");
                CHECKS.refused("unread '" + text + "'", x, Checks.read(x, KINDS.charAt(i), 1, text), 1);
                CHECKS.due("place() is that of the text ahead", x.place(), 6);
                CHECKS.due("fault()", x.fault(), 0);
                Checks.ship(x, "0 2 3");
                CHECKS.refused("unread '" + text + "'", x, Checks.read(x, KINDS.charAt(i), -1, text), 1);
                CHECKS.due("place()", x.place(), SillHours.BAD);
                CHECKS.due("fault() is that of the text ahead", x.fault(), 9);
            }
        }
    }

    private static void latestText() {
        for (int i = 0; i < KINDS.length(); i++) {
            char kind = KINDS.charAt(i);
            CHECKS.sentence("place(): Where the latest text that was read was WRONG; BAD if it was not");
            Asked x = Checks.harbour();
            readFor(2, x, i);
            CHECKS.due("place() of a wrong one of " + kind, x.place(), WRONG_PLACES[i]);
            CHECKS.due("place() again", x.place(), WRONG_PLACES[i]);
            Checks.put(x, "zzz");
            CHECKS.due("place() behind feed() and end()", x.place(), WRONG_PLACES[i]);
            x.end(0);
            readFor(4, x, i);
            CHECKS.due("place() of one with a fault of " + kind, x.place(), SillHours.BAD);
            readFor(2, x, i);
            readFor(0, x, i);
            CHECKS.due("place() of a taken one of " + kind, x.place(), SillHours.BAD);
            CHECKS.sentence("fault(): The FAULT of the latest text that was read; 0 if it had none");
            x = Checks.harbour();
            readFor(4, x, i);
            CHECKS.due("fault() of one with a fault of " + kind, x.fault(), FAULTS[i]);
            CHECKS.due("fault() again", x.fault(), FAULTS[i]);
            readFor(2, x, i);
            CHECKS.due("fault() of a wrong one of " + kind, x.fault(), 0);
            readFor(4, x, i);
            readFor(0, x, i);
            CHECKS.due("fault() of a taken one of " + kind, x.fault(), 0);
            x = full();
            readFor(4, x, i);
            readFor(9, x, i);
            CHECKS.due("fault() of one without room of " + kind, x.fault(), 0);
            readFor(2, x, i);
            readFor(9, x, i);
            CHECKS.due("place() of one without room of " + kind, x.place(), SillHours.BAD);
        }
    }

    /** One taken call of each kind that has a status. */
    private static Map<Call, Integer> takenCalls() {
        Map<Call, Integer> all = new LinkedHashMap<>();
        all.put(x -> x.feed(0, 0, 0, 0, 0), 20);
        all.put(x -> x.end(0), 0);
        all.put(x -> x.count(0), 1);
        all.put(x -> x.turns(0), 3);
        all.put(x -> x.turn(0, 2, 0), 720);
        all.put(x -> x.water(0, 720), 0);
        all.put(x -> x.above(0, 720, 1), 0);
        all.put(x -> x.rise(0, 1201, 0), -1);
        all.put(x -> x.ebb(0, 0, 0), -1);
        all.put(x -> x.hours(0, 0), 1);
        all.put(x -> x.hour(0, 0, 0, 0), 60);
        all.put(x -> x.minutes(0, 0), 601);
        all.put(x -> x.good(0, 0, -1), 0);
        all.put(x -> x.note(0, 0, 0), (int) '0');
        all.put(x -> x.stops(0), 1);
        all.put(x -> x.leg(0, 0, 0), 0);
        all.put(x -> x.arrive(0, 0, 99999), -1);
        all.put(x -> x.pass(0, 0, 99999, 0), -1);
        all.put(x -> x.waits(0, 0, 99999), -1);
        all.put(x -> x.start(0, 0, 0), -1);
        all.put(x -> x.letter(3, 0, 0), (int) '0');
        all.put(x -> x.same(0, 0), 1);
        return all;
    }

    private static void statusOfTheLatest() {
        CHECKS.sentence("STATUS: 0; of the latest call of those of which a number behind 0 is told below");
        for (Map.Entry<Call, Integer> entry : takenCalls().entrySet()) {
            Asked x = Checks.harbour();
            CHECKS.refused("end(-1)", x, x.end(-1), 3);
            CHECKS.taken("a taken call behind a refused one", x, entry.getKey().ask(x), entry.getValue());
        }
        for (int i = 0; i < KINDS.length(); i++) {
            Asked x = Checks.harbour();
            Checks.put(x, RIGHT[i]);
            CHECKS.refused("end(-1)", x, x.end(-1), 3);
            CHECKS.taken("a taken text behind a refused call", x, Checks.call(x, KINDS.charAt(i), 0), 1);
        }
        CHECKS.sentence("place(), fault() and status() have no number of their own: STATUS is of a call ahead of them");
        for (int outcome : new int[] {1, 2, 4, 9, 3}) {
            Asked x = outcome == 9 ? full() : Checks.harbour();
            if (outcome == 3) {
                x.count(5);
            } else {
                readFor(outcome, x, 3);
            }
            x.place();
            CHECKS.due("status() behind place()", x.status(), outcome);
            x.fault();
            CHECKS.due("status() behind fault()", x.status(), outcome);
            CHECKS.due("status() behind status()", x.status(), outcome);
        }
    }

    private static final String[] SILLS = {"bar 400", "gate 400 60 30", "flap 600 10 250", "bridge 1000", "bar -500", "bar 1500"};
    private static final String[] ROUTES = {"0 /60 1", "1~300 /10 4~0 /10 3~-400", "3 /10 1~300", "3 /10 1~1500 /5 4~1500", "5", "4~1500",
        "2! /1 0", "3 /10 3~-500"};

    private static Asked busyHarbour() {
        Asked x = new Asked();
        Checks.port(x, "lw0000 0,hw0600 1200,lw1200 0,hw1800 1100,lw0000 100");
        for (String sill : SILLS) {
            Checks.sill(x, 0, sill);
        }
        Checks.ship(x, "200 400 10");
        Checks.ship(x, "300 100 7");
        for (String route : ROUTES) {
            Checks.route(x, route);
        }
        return x;
    }

    private static List<Call> questions() {
        List<Call> all = new ArrayList<>();
        for (int i = 0; i < SILLS.length; i++) {
            int sill = i;
            for (int k = 0; k < 2; k++) {
                int ship = k;
                all.add(x -> x.minutes(sill, ship));
                all.add(x -> x.note(sill, ship, 3));
                all.add(x -> x.good(sill, ship, 365));
                all.add(x -> x.letter(1, sill, 4));
            }
        }
        for (int i = 0; i < ROUTES.length; i++) {
            int route = i;
            for (int k = 0; k < 2; k++) {
                int ship = k;
                all.add(x -> x.start(route, ship, 99999));
                all.add(x -> x.pass(route, ship, 170, 0));
                all.add(x -> x.waits(route, ship, 400));
                all.add(x -> x.rise(0, 1000, 37 * route));
                all.add(x -> x.ebb(0, 100, 37 * route));
                all.add(x -> x.letter(3, route, 2));
            }
        }
        return all;
    }

    /** Each question is asked of an object that has heard no other, then all in a row and back of one object. */
    private static void questionsChangeNothing() {
        CHECKS.sentence("a question changes nothing: it answers the same whatever was asked ahead of it");
        List<Call> questions = questions();
        int[] due = new int[questions.size()];
        for (int i = 0; i < due.length; i++) {
            due[i] = questions.get(i).ask(busyHarbour());
        }
        Asked x = busyHarbour();
        for (int i = 0; i < due.length; i++) {
            CHECKS.due("question " + i + " behind others", questions.get(i).ask(x), due[i]);
        }
        for (int i = due.length - 1; i >= 0; i--) {
            CHECKS.due("question " + i + " behind others", questions.get(i).ask(x), due[i]);
        }
    }

    static Checks run() {
        newObject();
        questionsChangeNothing();
        counts();
        refusedQuestionsChangeNothing();
        refusedTextsChangeNothing();
        noRoom();
        noRoomBesidesOthers();
        firstAsTold();
        tapeIsEmptyBehind();
        unreadTexts();
        latestText();
        statusOfTheLatest();
        return CHECKS;
    }

    public static void main(String[] args) {
        run().close();
    }
}
