/**
 * The boundary cases of 5 ROUTES and of promises 9, 24 to 29 and 30 (routes), each sentence of the document by itself.
 * Its ship 0 takes n minutes for / n.
 */
public final class RouteEdgesTest {
    private static final Checks CHECKS = new Checks();
    private static final int LEAST = Integer.MIN_VALUE;
    private static final int MOST = Integer.MAX_VALUE;
    private static final int[] NO_NUMBERS = {-1, 1, 8, LEAST, MOST};

    /**
     * For ship 0 sill 0 is good from 180 to 540, sill 1 from 300 to 390, sill 2 always (0 to 720), sill 3 at 360
     * alone, sill 4 up to 180 and from 540 on, sill 5 never; sill 6 is always good in its port, from 60 to 120.
     */
    private static Asked harbour(String route) {
        Asked x = new Asked();
        Checks.port(x, Checks.ONE_TIDE);
        Checks.port(x, "lw0100 700,hw0200 900");
        Checks.sill(x, 0, "bar 400");
        Checks.sill(x, 0, "gate 400 60 30");
        Checks.sill(x, 0, "bar -500");
        Checks.sill(x, 0, "gate 400 0 0");
        Checks.sill(x, 0, "bridge 1000");
        Checks.sill(x, 0, "bar 1001");
        Checks.sill(x, 1, "bar 0");
        Checks.ship(x, "200 400 10");
        CHECKS.taken(route, x, Checks.route(x, route), 0);
        return x;
    }

    private static int last(int[] passes) {
        return passes.length == 0 ? -1 : passes[passes.length - 1];
    }

    /** The minutes of the plan from t on. */
    private static void plan(String route, int t, int... passes) {
        Asked x = harbour(route);
        int stops = x.stops(0);
        int waits = passes.length == 0 ? -1 : 0;
        int leaves = t;
        for (int i = 0; i < stops; i++) {
            CHECKS.taken("pass " + i + " of " + route + " from " + t, x, x.pass(0, 0, t, i), passes.length == 0 ? -1 : passes[i]);
            if (passes.length > 0) {
                waits += passes[i] - (leaves + x.leg(0, 0, i));
                leaves = passes[i];
            }
        }
        CHECKS.taken("arrive of " + route + " from " + t, x, x.arrive(0, 0, t), last(passes));
        CHECKS.taken("waits of " + route + " from " + t, x, x.waits(0, 0, t), waits);
    }

    private static void noWay(String route, int t) {
        plan(route, t);
    }

    private static void start(String route, int t, int due) {
        Asked x = harbour(route);
        CHECKS.taken("start of " + route + " by " + t, x, x.start(0, 0, t), due);
        if (due >= 0) {
            int arrives = x.arrive(0, 0, due);
            CHECKS.due("there is a way from " + due + " by " + t, arrives >= 0 && arrives <= t ? 1 : 0, 1);
        }
    }

    private static void stopsAndLegs() {
        CHECKS.sentence("A ROUTE has STOPS (0, 1, ..), 8 at most");
        Asked x = harbour("0/1 1/2 2/3 3/4 4/5 5/6 6/7 0");
        CHECKS.taken("stops(0)", x, x.stops(0), 8);
        CHECKS.refused("nine stops", x, Checks.route(x, "0/1 1/2 2/3 3/4 4/5 5/6 6/7 0/8 0"), 9);
        CHECKS.refused("as many stops as a tape has", x, Checks.route(x, "0" + "/0 0".repeat(29)), 9);
        CHECKS.due("fault()", x.fault(), 0);
        CHECKS.due("place()", x.place(), SillHours.BAD);
        CHECKS.due("count(3)", x.count(3), 1);
        CHECKS.taken("one stop", x, Checks.route(x, "0"), 1);
        CHECKS.taken("stops(1)", x, x.stops(1), 1);
        CHECKS.sentence("a FAULT is told ahead of no room for a ninth STOP");
        CHECKS.refused("a fault of the ninth", x, Checks.route(x, "0/1 1/2 2/3 3/4 4/5 5/6 6/7 0/8 7"), 4);
        CHECKS.due("fault()", x.fault(), 10);
        CHECKS.refused("a fault of the thirtieth", x, Checks.route(x, "0" + "/0 0".repeat(28) + "/0 7"), 4);
        CHECKS.due("fault()", x.fault(), 10);
        CHECKS.sentence("For / n a SHIP takes (n * k + 9) / 10 minutes (rounded down) from the STOP ahead of it to that behind it.");
        legs("1 0 1", new int[] {0, 1, 9, 10, 11, 19, 20}, new int[] {0, 1, 1, 1, 2, 2, 2});
        legs("1 0 7", new int[] {0, 1, 2, 3, 10, 60, 61}, new int[] {0, 1, 2, 3, 7, 42, 43});
        legs("1 0 60", new int[] {0, 1, 10, 9999, 100, 999, 5}, new int[] {0, 6, 60, 59994, 600, 5994, 30});
        CHECKS.sentence("leg(): 0 of the first one. 1.");
        CHECKS.taken("leg(0, 0, 0)", x, x.leg(0, 0, 0), 0);
        CHECKS.taken("leg(0, 0, 7)", x, x.leg(0, 0, 7), 7);
        for (int i : new int[] {-1, 8, LEAST, MOST}) {
            CHECKS.refused("leg(0, 0, " + i + ")", x, x.leg(0, 0, i), 1);
        }
        CHECKS.refused("leg(1, 0, 1)", x, x.leg(1, 0, 1), 1);
        x = harbour("0/1 1");
        for (int none : NO_NUMBERS) {
            CHECKS.refused("leg(" + none + ", 0, 0)", x, x.leg(none, 0, 0), 1);
            CHECKS.refused("leg(0, " + none + ", 0)", x, x.leg(0, none, 0), 1);
            CHECKS.sentence("stops(): How many STOPS a ROUTE has. 1.");
            CHECKS.refused("stops(" + none + ")", x, x.stops(none), 1);
            CHECKS.sentence("leg(): 0 of the first one. 1.");
        }
    }

    private static void legs(String ship, int[] miles, int[] minutes) {
        Asked x = Checks.harbour();
        Checks.ship(x, ship);
        StringBuilder route = new StringBuilder("0");
        for (int n : miles) {
            route.append('/').append(n).append(" 0");
        }
        CHECKS.taken(route.toString(), x, Checks.route(x, route.toString()), 1);
        for (int i = 0; i < minutes.length; i++) {
            CHECKS.taken("leg of " + miles[i] + " for " + ship, x, x.leg(1, 1, i + 1), minutes[i]);
        }
        CHECKS.taken("leg of the first for " + ship, x, x.leg(1, 1, 0), 0);
    }

    private static void routeFault(String text, int fault) {
        Asked x = harbour("0");
        CHECKS.judged(text, x, Checks.route(x, text), 3, 1, fault);
    }

    private static void faults() {
        CHECKS.sentence("FAULT 10 of a right ROUTE, if not: the n of each STOP is the number of a SILL");
        routeFault("0", 0);
        routeFault("6", 0);
        routeFault("0006", 0);
        routeFault("7", 10);
        routeFault("9999", 10);
        routeFault("7!", 10);
        routeFault("7~0", 10);
        routeFault("0/1 6", 0);
        routeFault("0/1 7", 10);
        routeFault("0/9999 0", 0);
        routeFault("7/1 0", 10);
        routeFault("0/1 0/1 7/1 0", 10);
        Asked x = new Asked();
        CHECKS.refused("a route without any sill", x, Checks.route(x, "0"), 4);
        CHECKS.due("fault()", x.fault(), 10);
        CHECKS.sentence("FAULT 10: each SIZE is from -500 to 1500");
        routeFault("0~-500", 0);
        routeFault("0~1500", 0);
        routeFault("0~-0", 0);
        routeFault("0~-501", 10);
        routeFault("0~1501", 10);
        routeFault("0~9999", 10);
        routeFault("0~-9999", 10);
        routeFault("0/1 0~1501", 10);
        routeFault("0~0/1 0~-501/1 0", 10);
        routeFault("0/1501 0!", 0);
    }

    private static void arrivingAndPassing() {
        CHECKS.sentence("It ARRIVES at the first STOP at t");
        plan("0!", 180, 180);
        plan("0!", 540, 540);
        noWay("0!", 179);
        noWay("0!", 541);
        plan("2!", 0, 0);
        plan("2!", 720, 720);
        noWay("2!", 721);
        CHECKS.sentence("at each other one when it has passed the one ahead and the minutes from there are over");
        plan("2! /180 0!", 0, 0, 180);
        noWay("2! /179 0!", 0);
        plan("2! /60 0! /60 1!", 180, 180, 240, 300);
        noWay("2! /60 0! /60 1!", 179);
        plan("2! /60 0! /60 1!", 270, 270, 330, 390);
        noWay("2! /60 0! /60 1!", 271);
        plan("1! /0 1! /0 1!", 300, 300, 300, 300);
        plan("2 /720 2", 0, 0, 720);
        noWay("2 /721 2", 0);
        noWay("2 /720 2", 1);
        noWay("2 /9999 2", 0);
        CHECKS.sentence("Each MINUTE is GOOD for it at the STOP's SILL");
        noWay("5", 0);
        noWay("2 /1 5", 0);
        noWay("5 /1 2", 0);
        noWay("2 /1 5 /1 2", 0);
        plan("3", 0, 360);
        plan("3", 360, 360);
        noWay("3", 361);
        CHECKS.sentence("it is at a STOP n ! that at which it ARRIVES");
        noWay("3!", 359);
        plan("3!", 360, 360);
        noWay("3!", 361);
        plan("2 /60 3!", 0, 300, 360);
        plan("2 /60 3!", 300, 300, 360);
        noWay("2 /60 3!", 301);
        noWay("2! /60 3!", 299);
        CHECKS.sentence("at a STOP n that or a later one");
        plan("1", 0, 300);
        plan("1", 299, 300);
        plan("1", 300, 300);
        plan("1", 390, 390);
        noWay("1", 391);
        noWay("1", 99999);
        // no minutes of its port are wanted for waiting
        plan("6", 0, 60);
        plan("6", 59, 60);
        plan("6", 120, 120);
        noWay("6", 121);
        plan("4", 181, 540);
    }

    private static void waitingAfloat() {
        CHECKS.sentence("at a STOP n ~ SIZE that");
        plan("1~1500", 300, 300);
        plan("1~1500", 390, 390);
        noWay("1~1500", 299);
        plan("6~1500", 60, 60);
        CHECKS.sentence("or a later one if at all numbers from that at which it ARRIVES to the later one, these too, there is a HEIGHT that is "
            + "SIZE + DRAUGHT or more");
        // 300 and 200 stand from 160 to 560
        plan("1~300", 160, 300);
        noWay("1~300", 159);
        plan("1~301", 161, 300);
        noWay("1~301", 160);
        plan("1~799", 299, 300);
        plan("1~896", 299, 300);
        // 1096 and 2 / 3 at minute 299
        noWay("1~897", 299);
        // sill 4 from 540 on, where 600 stand: 400 and 200 up to 540, 401 and 200 up to 539
        plan("4~400", 181, 540);
        plan("4~400", 500, 540);
        noWay("4~401", 500);
        noWay("4~401", 539);
        plan("4~401", 540, 540);
        plan("4~-200", 181, 540);
        // at every number between: the water of two tides falls below it
        Asked x = new Asked();
        Checks.port(x, "lw0000 0,hw0600 1200,lw1200 100,hw1800 1200,lw0000 0");
        Checks.sill(x, 0, "gate 400 0 0");
        Checks.ship(x, "200 0 10");
        Checks.route(x, "0~-100");
        Checks.route(x, "0~-99");
        CHECKS.taken("arrive over a low water of 100", x, x.arrive(0, 0, 361), 1080);
        CHECKS.taken("no way over a low water of 100", x, x.arrive(1, 0, 361), -1);
        CHECKS.taken("no way from the low water itself", x, x.arrive(1, 0, 720), -1);
        CHECKS.taken("arrive from behind it", x, x.arrive(1, 0, 721), 1080);
        CHECKS.sentence("there is a HEIGHT of the SILL's PORT");
        plan("6~-500", 60, 60);
        noWay("6~-500", 59);
        noWay("6~-500", 0);
        plan("2! /60 6~-500", 0, 0, 60);
        noWay("2! /59 6~-500", 0);
        plan("2 /59 6~-500", 0, 1, 60);
        plan("2! /59 6", 0, 0, 60);
        // of sill 6's port, where 900 stand, not of port 0's
        plan("6! /60 1~300", 100, 100, 300);
        noWay("6! /60 1~300", 99);
        plan("2! /10 6~500", 60, 60, 70);
    }

    private static void plans() {
        CHECKS.sentence("The PLAN from t on is the WAY of which the last MINUTE is the least");
        plan("0", 0, 180);
        plan("0 /60 1", 0, 240, 300);
        plan("1 /100 0", 0, 300, 400);
        plan("1 /100 0", 320, 320, 420);
        plan("2 /10 4", 170, 170, 180);
        plan("2 /10 4", 171, 530, 540);
        plan("0 /0 4", 180, 180, 180);
        plan("0 /0 4", 181, 540, 540);
        CHECKS.sentence("of several that in which the SHIP passes the STOP ahead of the last one latest");
        plan("2 /60 1", 0, 240, 300);
        plan("2 /60 1", 239, 240, 300);
        plan("2 /60 1", 240, 240, 300);
        plan("2 /60 1", 241, 241, 301);
        plan("2 /60 1!", 0, 240, 300);
        plan("4 /10 1", 0, 180, 300);
        plan("4 /10 1~300", 0, 180, 300);
        noWay("4 /10 1~600", 0);
        plan("2~300 /60 1", 160, 240, 300);
        plan("2~300 /60 1", 159, 159, 300);
        plan("2~300 /10 4", 175, 530, 540);
        plan("2 /60 1~700", 0, 240, 300);
        CHECKS.sentence("of several that in which it passes the one ahead of this latest, and so on");
        plan("2 /10 0 /10 1", 0, 280, 290, 300);
        plan("2 /10 4 /10 1", 0, 170, 180, 300);
        plan("2 /10 2 /10 4 /10 1", 0, 160, 170, 180, 300);
        plan("4 /10 2 /10 1", 0, 180, 290, 300);
        plan("4 /10 4 /10 1", 0, 170, 180, 300);
        plan("2 /60 0! /60 1!", 0, 180, 240, 300);
        plan("2! /60 0 /60 1!", 7, 7, 240, 300);
        plan("2 /1 2 /1 2 /1 2 /1 2 /1 2 /1 2 /1 3", 0, 353, 354, 355, 356, 357, 358, 359, 360);
        plan("2~0 /10 2! /10 2~300 /10 1", 0, 0, 10, 20, 300);
        // 200 stand from 90 on
        plan("2~0 /10 2! /10 2~300 /10 1", 90, 270, 280, 290, 300);
        CHECKS.sentence("waits(): How many minutes there are, of all STOPS together, from that at which a SHIP ARRIVES to that at which it passes");
        Asked x = harbour("2! /60 0 /60 1 /10 2");
        CHECKS.taken("pass 1", x, x.pass(0, 0, 7, 1), 240);
        CHECKS.taken("pass 2", x, x.pass(0, 0, 7, 2), 300);
        CHECKS.taken("pass 3", x, x.pass(0, 0, 7, 3), 310);
        CHECKS.taken("waits from 67 to 240 at stop 1", x, x.waits(0, 0, 7), 173);
        CHECKS.taken("waits from 239 to 240 at stop 1", x, x.waits(0, 0, 179), 1);
        CHECKS.taken("waits nowhere", x, x.waits(0, 0, 180), 0);
        x = harbour("2! /60 0! /60 1 /200 4");
        CHECKS.taken("waits from 260 to 340 at stop 2", x, x.waits(0, 0, 140), 80);
        CHECKS.taken("pass 2", x, x.pass(0, 0, 140, 2), 340);
    }

    private static void noWays() {
        Asked x = harbour("1 /10 0");
        CHECKS.sentence("arrive(): -1: there is no WAY.");
        CHECKS.taken("arrive from 390", x, x.arrive(0, 0, 390), 400);
        CHECKS.taken("arrive from 391", x, x.arrive(0, 0, 391), -1);
        CHECKS.sentence("pass(): -1: there is no WAY.");
        CHECKS.taken("pass 0 from 390", x, x.pass(0, 0, 390, 0), 390);
        CHECKS.taken("pass 0 from 391", x, x.pass(0, 0, 391, 0), -1);
        CHECKS.taken("pass 1 from 391", x, x.pass(0, 0, 391, 1), -1);
        CHECKS.sentence("waits(): -1: there is no WAY.");
        CHECKS.taken("waits from 390", x, x.waits(0, 0, 390), 0);
        CHECKS.taken("waits from 391", x, x.waits(0, 0, 391), -1);
        CHECKS.sentence("start(): -1: there is none.");
        CHECKS.taken("start by 309", x, x.start(0, 0, 309), -1);
        CHECKS.taken("start by 310", x, x.start(0, 0, 310), 300);
        CHECKS.taken("start by 0", x, x.start(0, 0, 0), -1);
    }

    private static void starts() {
        CHECKS.sentence("start(): The greatest number from which on a SHIP has a WAY for a ROUTE of which the last MINUTE is t or less");
        start("0", 179, -1);
        start("0", 180, 180);
        start("0", 300, 300);
        start("0", 540, 540);
        start("0", 541, 540);
        start("0", 99999, 540);
        start("2", 0, 0);
        start("2!", 0, 0);
        start("2 /0 2", 0, 0);
        start("2 /1 2", 0, -1);
        start("2 /1 2", 1, 0);
        start("2 /1 2!", 1, 0);
        start("0 /60 1", 299, -1);
        start("0 /60 1", 300, 240);
        start("0 /60 1", 389, 329);
        start("0 /60 1", 390, 330);
        start("0 /60 1", 99999, 330);
        start("0! /60 1!", 390, 330);
        start("3", 359, -1);
        start("3", 360, 360);
        start("5", 99999, -1);
        start("2 /60 3!", 360, 300);
        start("4", 539, 180);
        start("4", 540, 540);
        start("4~400", 560, 560);
        // to sill 1 by way of sill 4, which is good up to 180: there the ship waits, where it may
        start("4 /10 1", 99999, 180);
        start("4 /10 1~300", 299, -1);
        start("4 /10 1~300", 300, 180);
        // 450 and 200 stand from 190 on, where the ship arrives at the latest; 451 and 200 do not
        start("4 /10 1~450", 300, 180);
        start("4 /10 1~451", 300, -1);
        start("4 /10 1!", 99999, -1);
        start("6", 59, -1);
        start("6", 60, 60);
        start("6 /10 1", 99999, 120);
        start("6 /10 1~300", 99999, -1);
        start("6 /60 1~300", 300, 120);
        start("6 /60 1~300", 299, -1);
        start("2 /1 2 /1 2 /1 2 /1 2 /1 2 /1 2 /1 3", 360, 353);
    }

    private static void numbersAsked() {
        Asked x = harbour("2 /10 2");
        for (int t : new int[] {-1, 100000, LEAST, MOST}) {
            CHECKS.sentence("arrive(): 1; 3: t is not from 0 to 99999.");
            CHECKS.refused("arrive(0, 0, " + t + ")", x, x.arrive(0, 0, t), 3);
            CHECKS.refused("1 ahead of 3: arrive(1, 0, " + t + ")", x, x.arrive(1, 0, t), 1);
            CHECKS.refused("1 ahead of 3: arrive(0, 1, " + t + ")", x, x.arrive(0, 1, t), 1);
            CHECKS.sentence("pass(): 1; 3: as arrive().");
            CHECKS.refused("pass(0, 0, " + t + ", 0)", x, x.pass(0, 0, t, 0), 3);
            CHECKS.refused("1 ahead of 3: pass(0, 0, " + t + ", 2)", x, x.pass(0, 0, t, 2), 1);
            CHECKS.refused("1 ahead of 3: pass(1, 0, " + t + ", 0)", x, x.pass(1, 0, t, 0), 1);
            CHECKS.refused("1 ahead of 3: pass(0, 1, " + t + ", 0)", x, x.pass(0, 1, t, 0), 1);
            CHECKS.sentence("waits(): 1; 3: as arrive().");
            CHECKS.refused("waits(0, 0, " + t + ")", x, x.waits(0, 0, t), 3);
            CHECKS.refused("1 ahead of 3: waits(1, 0, " + t + ")", x, x.waits(1, 0, t), 1);
            CHECKS.refused("1 ahead of 3: waits(0, 1, " + t + ")", x, x.waits(0, 1, t), 1);
            CHECKS.sentence("start(): 1; 3: as arrive().");
            CHECKS.refused("start(0, 0, " + t + ")", x, x.start(0, 0, t), 3);
            CHECKS.refused("1 ahead of 3: start(1, 0, " + t + ")", x, x.start(1, 0, t), 1);
            CHECKS.refused("1 ahead of 3: start(0, 1, " + t + ")", x, x.start(0, 1, t), 1);
        }
        x = harbour("2 /10 2");
        for (int none : NO_NUMBERS) {
            CHECKS.sentence("arrive(): 1; 3: t is not from 0 to 99999.");
            CHECKS.refused("arrive(" + none + ", 0, 0)", x, x.arrive(none, 0, 0), 1);
            CHECKS.refused("arrive(0, " + none + ", 0)", x, x.arrive(0, none, 0), 1);
            CHECKS.sentence("pass(): 1; 3: as arrive().");
            CHECKS.refused("pass(" + none + ", 0, 0, 0)", x, x.pass(none, 0, 0, 0), 1);
            CHECKS.refused("pass(0, " + none + ", 0, 0)", x, x.pass(0, none, 0, 0), 1);
            CHECKS.sentence("waits(): 1; 3: as arrive().");
            CHECKS.refused("waits(" + none + ", 0, 0)", x, x.waits(none, 0, 0), 1);
            CHECKS.refused("waits(0, " + none + ", 0)", x, x.waits(0, none, 0), 1);
            CHECKS.sentence("start(): 1; 3: as arrive().");
            CHECKS.refused("start(" + none + ", 0, 0)", x, x.start(none, 0, 0), 1);
            CHECKS.refused("start(0, " + none + ", 0)", x, x.start(0, none, 0), 1);
        }
        leastAndGreatestNumbers();
    }

    private static void leastAndGreatestNumbers() {
        Asked x = harbour("2 /10 2");
        CHECKS.sentence("arrive(): 1; 3: t is not from 0 to 99999.");
        CHECKS.taken("arrive(0, 0, 0)", x, x.arrive(0, 0, 0), 10);
        CHECKS.taken("arrive(0, 0, 99999)", x, x.arrive(0, 0, 99999), -1);
        CHECKS.sentence("pass(): 1; 3: as arrive().");
        CHECKS.taken("pass(0, 0, 0, 0)", x, x.pass(0, 0, 0, 0), 0);
        CHECKS.taken("pass(0, 0, 0, 1)", x, x.pass(0, 0, 0, 1), 10);
        CHECKS.taken("pass(0, 0, 99999, 1)", x, x.pass(0, 0, 99999, 1), -1);
        for (int i : new int[] {-1, 2, 8, LEAST, MOST}) {
            CHECKS.refused("pass(0, 0, 0, " + i + ")", x, x.pass(0, 0, 0, i), 1);
            CHECKS.refused("no such stop ahead of no way: pass(0, 0, 9999, " + i + ")", x, x.pass(0, 0, 9999, i), 1);
        }
        CHECKS.sentence("waits(): 1; 3: as arrive().");
        CHECKS.taken("waits(0, 0, 0)", x, x.waits(0, 0, 0), 0);
        CHECKS.taken("waits(0, 0, 99999)", x, x.waits(0, 0, 99999), -1);
        CHECKS.sentence("start(): 1; 3: as arrive().");
        CHECKS.taken("start(0, 0, 0)", x, x.start(0, 0, 0), -1);
        CHECKS.taken("start(0, 0, 99999)", x, x.start(0, 0, 99999), 710);
    }

    private static void written(String told, String due) {
        Asked x = harbour(told);
        CHECKS.due("written " + told, Checks.written(x, 3, 0), due);
    }

    private static void writtenRoutes() {
        CHECKS.sentence("A ROUTE is WRITTEN as its STOPS, a BLANK, /, n and a BLANK between each two; a STOP as n, and behind it !, or ~ and SIZE, "
            + "if it has this, nothing between.");
        written("0", "0");
        written(" 0003 ! ", "3!");
        written("3 ~ - 0", "3~0");
        written("3~0010", "3~10");
        written("0003 ! / 0010 1 ~ - 0005/0 2", "3! /10 1~-5 /0 2");
        written("6~-500/9999 6~-500/9999 6~-500/9999 6~-500/9999 6~1500/9999 6~1500/9999 6~1500/9999 6!",
            "6~-500 /9999 6~-500 /9999 6~-500 /9999 6~-500 /9999 6~1500 /9999 6~1500 /9999 6~1500 /9999 6!");
        CHECKS.sentence("letter(): The k-th byte (from 0) of a ROUTE (3). 1.");
        Asked x = harbour("0! /10 1");
        CHECKS.taken("letter(3, 0, 0)", x, x.letter(3, 0, 0), '0');
        CHECKS.taken("letter(3, 0, 7)", x, x.letter(3, 0, 7), '1');
        for (int k : new int[] {-1, 8, 9, LEAST, MOST}) {
            CHECKS.refused("letter(3, 0, " + k + ")", x, x.letter(3, 0, k), 1);
        }
        for (int none : NO_NUMBERS) {
            CHECKS.refused("letter(3, " + none + ", 0)", x, x.letter(3, none, 0), 1);
        }
    }

    static Checks run() {
        stopsAndLegs();
        faults();
        arrivingAndPassing();
        waitingAfloat();
        plans();
        noWays();
        starts();
        numbersAsked();
        writtenRoutes();
        return CHECKS;
    }

    public static void main(String[] args) {
        run().close();
    }
}
