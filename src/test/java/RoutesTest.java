/** Promises 9, 24 to 29 and 30 (routes): plans, waiting, and the latest start. */
public final class RoutesTest {
    private static final Checks CHECKS = new Checks();

    /** Sill 0 is good from 180 to 540, sill 1 from 300 to 390, sill 2 always (0 to 720), sill 3 at 360 alone. */
    private static Asked harbour() {
        Asked x = new Asked();
        Checks.port(x, "lw0000 0,hw0600 1200,lw1200 0");
        Checks.sill(x, 0, "bar 400");
        Checks.sill(x, 0, "gate 400 60 30");
        Checks.sill(x, 0, "bar -500");
        Checks.sill(x, 0, "gate 400 0 0");
        Checks.ship(x, "200 400 10");
        Checks.ship(x, "200 400 7");
        return x;
    }

    /** passes: the minutes of the plan from t on; none if there is no way. */
    private static void plan(String route, int t, int waits, int... passes) {
        Asked x = harbour();
        String what = route + " from " + t;
        CHECKS.due(what, Checks.route(x, route), 0);
        int stops = x.stops(0);
        CHECKS.taken("arrive " + what, x, x.arrive(0, 0, t), passes.length == 0 ? -1 : passes[passes.length - 1]);
        CHECKS.taken("waits " + what, x, x.waits(0, 0, t), passes.length == 0 ? -1 : waits);
        for (int i = 0; i < stops; i++) {
            CHECKS.taken("pass " + i + " " + what, x, x.pass(0, 0, t, i), passes.length == 0 ? -1 : passes[i]);
        }
        CHECKS.refused("pass behind the last " + what, x, x.pass(0, 0, t, stops), 1);
        CHECKS.refused("pass -1 " + what, x, x.pass(0, 0, t, -1), 1);
    }

    private static void start(String route, int t, int due) {
        Asked x = harbour();
        CHECKS.due(route, Checks.route(x, route), 0);
        CHECKS.taken("start " + route + " by " + t, x, x.start(0, 0, t), due);
    }

    private static void waitingAnywhere() {
        plan("0", 0, 180, 180);
        plan("0", 180, 0, 180);
        plan("0", 540, 0, 540);
        plan("0", 541, 0);
        plan("0", 99999, 0);
        // the first is passed as late as the last one lets it
        plan("0 /60 1", 0, 240, 240, 300);
        plan("0 /60 1", 239, 1, 239 + 1, 300);
        plan("0 /60 1", 250, 0, 250, 310);
        plan("0 /60 1", 330, 0, 330, 390);
        plan("0 /60 1", 331, 0);
        plan("2 /10 0 /10 1", 0, 280, 280, 290, 300);
        plan("1 /0 1 /0 1", 5, 295, 300, 300, 300);
        plan("2 /9999 2", 0, 0);
        plan("2 /720 2", 0, 0, 0, 720);
        plan("2 /721 2", 0, 0);
        plan("3 /180 0", 0, 360, 360, 540);
        plan("3 /181 0", 0, 0);
        // sill 0 closes before the gate opens again: there is no waiting beyond
        plan("1 /100 0", 0, 300, 300, 400);
    }

    private static void goingOn() {
        plan("0!", 179, 0);
        plan("0!", 180, 0, 180);
        plan("0! /60 1", 200, 40, 200, 300);
        plan("0! /60 1", 179, 0);
        plan("0 /60 1!", 0, 240, 240, 300);
        plan("0 /200 1!", 0, 180, 180, 380);
        plan("0 /211 1!", 0, 0);
        plan("0! /60 1!", 200, 0);
        plan("0! /60 1!", 240, 0, 240, 300);
        plan("2! /60 0! /60 1!", 180, 0, 180, 240, 300);
        plan("2! /60 0! /60 1!", 179, 0);
        plan("2 /60 0! /60 1!", 0, 180, 180, 240, 300);
        // the stop ahead of the last one as late as can be, then the one ahead of it
        plan("2 /60 0 /60 1!", 0, 180, 180, 240, 300);
        plan("2! /60 0 /60 1!", 7, 173, 7, 240, 300);
        plan("3! /0 1", 360, 0, 360, 360);
        plan("3! /0 1", 359, 0);
    }

    private static void waitingAfloat() {
        // 300 and 200 stand from 160 to 560
        plan("0~300", 159, 0);
        plan("0~300", 160, 20, 180);
        plan("0~300", 200, 0, 200);
        plan("1~300", 200, 100, 300);
        plan("1~300", 160, 140, 300);
        plan("1~300", 159, 0);
        // not deep enough to wait, but to pass at once
        plan("1~1000", 300, 0, 300);
        plan("1~1000", 299, 0);
        plan("1~1500", 350, 0, 350);
        plan("1~-200", 0, 300, 300);
        plan("1~-199", 0, 0);
        plan("1~-199", 1, 299, 300);
        plan("2! /60 1~300", 99, 0);
        plan("2! /60 1~300", 100, 140, 100, 300);
        plan("2 /60 1~300", 0, 240, 240, 300);
        plan("2~300 /60 1!", 0, 0);
        plan("2~300 /60 1!", 160, 80, 240, 300);
        // deep from 240 on: waiting afloat up to 300 from no earlier
        plan("2! /60 1~700", 200, 40, 200, 300);
        plan("2! /60 1~700", 150, 0);
        // two tides: the deep water of the first one does not reach to the second one
        Asked x = new Asked();
        Checks.port(x, "lw0000 0,hw0600 1200,lw1200 0,hw1800 1200,lw0000 0");
        Checks.sill(x, 0, "gate 400 60 30");
        Checks.ship(x, "200 0 10");
        Checks.route(x, "0~0");
        Checks.route(x, "0~-200");
        Checks.route(x, "0");
        CHECKS.due("arrive", x.arrive(0, 0, 100), 300);
        CHECKS.due("arrive", x.arrive(0, 0, 390), 390);
        CHECKS.due("arrive", x.arrive(0, 0, 391), -1);
        CHECKS.due("arrive", x.arrive(0, 0, 821), 1020);
        CHECKS.due("arrive", x.arrive(1, 0, 391), 1020);
        CHECKS.due("arrive", x.arrive(2, 0, 391), 1020);
        CHECKS.due("start", x.start(0, 0, 1019), 390);
        CHECKS.due("start", x.start(0, 0, 1020), 1020);
    }

    private static void starts() {
        start("0", 179, -1);
        start("0", 180, 180);
        start("0", 99999, 540);
        start("0 /60 1", 299, -1);
        start("0 /60 1", 300, 240);
        start("0 /60 1", 350, 290);
        start("0 /60 1", 99999, 330);
        start("0! /60 1!", 99999, 330);
        start("1 /100 0", 99999, 390);
        start("1 /100 0", 450, 350);
        start("1 /200 0", 99999, 340);
        start("1! /300 0!", 99999, -1);
        start("2 /0 2", 0, 0);
        start("2 /60 3", 99999, 300);
        start("2 /60 3 /60 2", 419, -1);
        start("2 /60 3 /60 2", 420, 300);
        start("2 /60 3~1000 /60 2", 420, 300);
        start("3 /10 2", 369, -1);
        start("3 /10 2", 370, 360);
        start("2 /9999 2", 99999, -1);
    }

    /** A later window may be missed: an earlier pass that waits afloat can be the only way. */
    private static void startByWaiting() {
        Asked x = harbour();
        // sill 4: good up to 200 only, so the ship comes early to sill 1 and waits there in 300 + 200
        Checks.sill(x, 0, "bridge 1067");
        CHECKS.due("note", Checks.note(x, 4, 0).substring(0, 9), "0000-0313");
        Checks.route(x, "4 /10 1~300");
        CHECKS.due("start", x.start(0, 0, 380), 193);
        CHECKS.due("arrive", x.arrive(0, 0, 193), 300);
        CHECKS.due("waits", x.waits(0, 0, 193), 97);
        CHECKS.due("arrive", x.arrive(0, 0, 194), -1);
        Checks.route(x, "4 /10 1!");
        CHECKS.due("start", x.start(1, 0, 380), -1);
        // 600 and 200 stand from 220 on, later than the ship can come; 500 and 200 from 200 on
        Checks.route(x, "4 /10 1~600");
        CHECKS.due("start", x.start(2, 0, 380), -1);
        Checks.route(x, "4! /10 1~500");
        CHECKS.due("start", x.start(3, 0, 380), 193);
        CHECKS.due("arrive", x.arrive(3, 0, 189), -1);
        CHECKS.due("arrive", x.arrive(3, 0, 190), 300);
    }

    private static void legs() {
        Asked x = harbour();
        Checks.route(x, "0 /60 1 /61 2 /0 0 /1 0 /9999 0");
        int[] slow = {0, 60, 61, 0, 1, 9999};
        int[] fast = {0, 42, 43, 0, 1, 7000};
        for (int i = 0; i < slow.length; i++) {
            CHECKS.taken("leg", x, x.leg(0, 0, i), slow[i]);
            CHECKS.taken("leg", x, x.leg(0, 1, i), fast[i]);
        }
        CHECKS.taken("stops(0)", x, x.stops(0), 6);
        CHECKS.refused("leg(0, 0, 6)", x, x.leg(0, 0, 6), 1);
        CHECKS.refused("leg(0, 0, -1)", x, x.leg(0, 0, -1), 1);
        CHECKS.refused("leg(0, 2, 0)", x, x.leg(0, 2, 0), 1);
        CHECKS.refused("leg(1, 0, 0)", x, x.leg(1, 0, 0), 1);
        CHECKS.refused("stops(1)", x, x.stops(1), 1);
        CHECKS.refused("stops(-1)", x, x.stops(-1), 1);
    }

    private static void refusals() {
        Asked x = harbour();
        Checks.route(x, "0 /60 1");
        int[][] none = {{1, 0}, {0, 2}, {-1, 0}, {0, -1}};
        for (int[] pair : none) {
            CHECKS.refused("arrive", x, x.arrive(pair[0], pair[1], -1), 1);
            CHECKS.refused("pass", x, x.pass(pair[0], pair[1], -1, 0), 1);
            CHECKS.refused("waits", x, x.waits(pair[0], pair[1], -1), 1);
            CHECKS.refused("start", x, x.start(pair[0], pair[1], -1), 1);
        }
        for (int t : new int[] {-1, 100000, Integer.MIN_VALUE, Integer.MAX_VALUE}) {
            CHECKS.refused("arrive", x, x.arrive(0, 0, t), 3);
            CHECKS.refused("pass", x, x.pass(0, 0, t, 0), 3);
            CHECKS.refused("pass, no stop", x, x.pass(0, 0, t, 2), 1);
            CHECKS.refused("waits", x, x.waits(0, 0, t), 3);
            CHECKS.refused("start", x, x.start(0, 0, t), 3);
        }
    }

    private static void texts() {
        Asked x = harbour();
        String[] told = {"0", " 0003 ! ", "1~-0/0 2~ - 5/0010 0!", "0~1500 / 9999 0 ~ -500"};
        String[] written = {"0", "3!", "1~0 /0 2~-5 /10 0!", "0~1500 /9999 0~-500"};
        for (int i = 0; i < told.length; i++) {
            CHECKS.taken(told[i], x, Checks.route(x, told[i]), i);
            CHECKS.due("written " + told[i], Checks.written(x, 3, i), written[i]);
        }
        for (String text : new String[] {"4", "0 /1 4", "0~1501", "0~-501", "0 /1 0~1501 /1 0", "9999"}) {
            CHECKS.refused(text, x, Checks.route(x, text), 4);
            CHECKS.due("fault() of " + text, x.fault(), 10);
        }
        CHECKS.taken("eight stops", x, Checks.route(x, "0/0 1/1 2/2 3/3 0/4 1/5 2/6 3"), 4);
        CHECKS.due("stops(4)", x.stops(4), 8);
        CHECKS.due("written", Checks.written(x, 3, 4), "0 /0 1 /1 2 /2 3 /3 0 /4 1 /5 2 /6 3");
        CHECKS.refused("nine stops", x, Checks.route(x, "0/0 1/1 2/2 3/3 0/4 1/5 2/6 3/7 0"), 9);
        CHECKS.due("fault()", x.fault(), 0);
        CHECKS.refused("nine stops, a fault", x, Checks.route(x, "0/0 1/1 2/2 3/3 0/4 1/5 2/6 3/7 4"), 4);
        CHECKS.due("fault()", x.fault(), 10);
        StringBuilder thirty = new StringBuilder("0");
        for (int i = 1; i < 30; i++) {
            thirty.append("/0 0");
        }
        CHECKS.refused("thirty stops", x, Checks.route(x, thirty.toString()), 9);
        CHECKS.refused("thirty stops, a fault", x, Checks.route(x, thirty.substring(0, 116) + "9"), 4);
        CHECKS.refused("thirty stops, wrong", x, Checks.route(x, thirty.substring(0, 116) + "!"), 2);
        CHECKS.due("place()", x.place(), 116);
        for (int i = 5; i < 8; i++) {
            CHECKS.taken("route", x, Checks.route(x, "0"), i);
        }
        CHECKS.refused("a ninth route", x, Checks.route(x, "0"), 9);
        CHECKS.refused("a fault ahead of no room", x, Checks.route(x, "4"), 4);
        CHECKS.refused("a wrong text ahead of a fault", x, Checks.route(x, "4 4"), 2);
        CHECKS.due("count(3)", x.count(3), 8);
        CHECKS.due("count(4)", x.count(4), 0);
    }

    public static void main(String[] args) {
        waitingAnywhere();
        goingOn();
        waitingAfloat();
        starts();
        startByWaiting();
        legs();
        refusals();
        texts();
        CHECKS.close();
    }
}
