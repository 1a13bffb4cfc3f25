import java.util.ArrayList;
import java.util.List;
import java.util.Random;

/** Runs of random calls on SillHours and on PlainHours, which have to answer the same; every seed is fixed. */
public final class RandomRunsTest {
    private static final int RUNS = 240;
    /** The most that one turn of a run asks: a text in pieces, and some questions. */
    private static final int CALLS_OF_A_TURN = 80;

    private final Random random;
    private final Asked quick = new Asked();
    private final PlainHours plain = new PlainHours();
    private final List<String> calls = new ArrayList<>();
    private final int mostTurns;
    private boolean differs = false;

    private RandomRunsTest(int seed) {
        random = new Random(seed);
        mostTurns = seed % 10 == 0 ? 16 : 2 + seed % 5;
    }

    private void compare(String call, int got, int want) {
        compareAnswer(call, got, want);
        if (chance(40)) {
            compareAnswer("status()", quick.status(), plain.status());
        }
        boolean isText = call.startsWith("port") || call.startsWith("longer") || call.startsWith("second")
            || call.startsWith("sill") || call.startsWith("ship") || call.startsWith("route");
        if (isText || chance(3)) {
            compareAnswer("place()", quick.place(), plain.place());
            compareAnswer("fault()", quick.fault(), plain.fault());
            compareAnswer("status()", quick.status(), plain.status());
        }
    }

    private void compareAnswer(String call, int got, int want) {
        calls.add(call + " = " + got);
        if (got != want) {
            differs = true;
            calls.add("due is " + want);
        }
    }

    private int any(int... choices) {
        return choices[random.nextInt(choices.length)];
    }

    private int from(int least, int most) {
        return least + random.nextInt(most - least + 1);
    }

    private boolean chance(int percent) {
        return random.nextInt(100) < percent;
    }

    // ---- texts

    private void put(String text) {
        if (chance(3)) {
            feedWords(from(0, 1 << 30), from(-5, 5), -1, any(0x20202020, 0x68773034), random.nextInt());
        }
        StringBuilder full = new StringBuilder(text);
        while (full.length() % 20 != 0) {
            full.append(chance(50) ? ' ' : 'x');
        }
        int before = plain.count(4);
        for (int i = 0; i < full.length(); i += 20) {
            int[] words = new int[5];
            for (int k = 0; k < 20; k++) {
                words[k / 4] = words[k / 4] << 8 | full.charAt(i + k) & 255;
            }
            feedWords(words[0], words[1], words[2], words[3], words[4]);
        }
        int n = before + text.length() + (chance(2) ? from(-3, 3) : 0);
        compare("end(" + n + ")", quick.end(n), plain.end(n));
    }

    private void feedWords(int a, int b, int c, int d, int e) {
        compare("feed(" + a + ", " + b + ", " + c + ", " + d + ", " + e + ")",
            quick.feed(a, b, c, d, e), plain.feed(a, b, c, d, e));
    }

    private String gap() {
        return chance(12) ? " ".repeat(from(1, 3)) : "";
    }

    /** Puts blanks in, where some must be or may be, and breaks some texts. */
    private String join(List<String> pieces) {
        StringBuilder text = new StringBuilder(gap());
        String ahead = "";
        for (String piece : pieces) {
            boolean apart = !ahead.isEmpty() && Character.isDigit(ahead.charAt(ahead.length() - 1))
                && Character.isDigit(piece.charAt(0));
            text.append(apart && !chance(1) ? " " : "").append(gap()).append(piece);
            ahead = piece;
        }
        text.append(gap());
        return chance(12) ? broken(text) : text.toString();
    }

    private String broken(StringBuilder text) {
        String signs = "+-,/!~ 0159hwlbargatefpidAZ\u0000\u00ff.{`@:";
        for (int i = from(1, 2); i > 0 && text.length() > 0; i--) {
            int at = random.nextInt(text.length());
            char sign = signs.charAt(random.nextInt(signs.length()));
            switch (random.nextInt(4)) {
                case 0 -> text.setCharAt(at, sign);
                case 1 -> text.insert(at, sign);
                case 2 -> text.deleteCharAt(at);
                default -> text.setLength(at);
            }
        }
        return text.toString();
    }

    private static void addSize(List<String> pieces, int size) {
        if (size < 0) {
            pieces.add("-");
        }
        pieces.add(Integer.toString(Math.abs(size)));
    }

    private void addStep(List<String> pieces, int step) {
        pieces.add(step < 0 || step == 0 && chance(50) ? "-" : "+");
        pieces.add(Integer.toString(Math.abs(step)));
    }

    private int height() {
        return chance(4) ? any(-500, -501, 1500, 1501, 0, 9999, -9999) : from(-60, 700);
    }

    private String tableText(boolean high, int ahead, int aheadHeight, int turns) {
        List<String> pieces = new ArrayList<>();
        boolean isHigh = high;
        int minute = ahead;
        int height = aheadHeight;
        for (int i = 0; i < turns; i++) {
            minute += i == 0 && ahead < 0 ? from(1, chance(80) ? 200 : 1440)
                : chance(3) ? any(59, 801, 1440, 900) : chance(15) ? any(60, 61, 799, 800) : chance(50) ? from(60, 200) : from(60, 800);
            int other = height();
            boolean rises = chance(97) == isHigh;
            height = i == 0 && ahead < 0 ? other : rises ? height + from(chance(3) ? 0 : 1, 400) : height - from(chance(3) ? 0 : 1, 400);
            int time = minute / 60 % 24 * 100 + minute % 60;
            time = chance(1) ? any(2400, 2360, 60, 9999, 2359) : time;
            if (i > 0) {
                pieces.add(",");
            }
            pieces.add(isHigh ? "hw" : "lw");
            pieces.add(chance(80) ? String.format("%04d", time) : Integer.toString(time));
            addSize(pieces, height);
            isHigh = chance(98) != isHigh;
        }
        return join(pieces);
    }

    private void port() {
        put(tableText(chance(50), -1, 0, Math.min(from(1, mostTurns), 11)));
        compare("port()", quick.port(), plain.port());
    }

    private int number(List<?> row) {
        return chance(4) ? any(-1, row.size(), 99, Integer.MIN_VALUE, Integer.MAX_VALUE)
            : row.isEmpty() ? 0 : random.nextInt(row.size());
    }

    private void longer() {
        int port = number(plain.ports);
        boolean isThere = port >= 0 && port < plain.ports.size();
        PlainHours.Turn last = new PlainHours.Turn(true, 100, 100);
        if (isThere) {
            last = plain.ports.get(port).get(plain.ports.get(port).size() - 1);
        }
        put(tableText(!last.high(), last.minute(), last.height(), from(1, mostTurns > 6 ? 9 : 2)));
        compare("longer(" + port + ")", quick.longer(port), plain.longer(port));
    }

    private void addShift(List<String> pieces) {
        boolean far = chance(10);
        addStep(pieces, far ? any(300, 301, -300, -301, 250, -200) : from(-20, 20));
        addSize(pieces, chance(5) ? any(-500, 1500, -501, 1501) : from(0, 700));
        addStep(pieces, chance(5) ? any(300, -300, 301, -301) : from(-60, 60));
        addSize(pieces, chance(5) ? any(-500, 1500, -501, 1501) : from(0, 700));
        addStep(pieces, chance(5) ? any(300, -300, 301, -301) : from(-60, 60));
    }

    private void second() {
        List<String> pieces = new ArrayList<>();
        pieces.add("hw");
        addShift(pieces);
        pieces.add(",");
        pieces.add("lw");
        addShift(pieces);
        put(join(pieces));
        int port = number(plain.ports);
        compare("second(" + port + ")", quick.second(port), plain.second(port));
    }

    private void sill() {
        List<String> pieces = new ArrayList<>();
        int kind = random.nextInt(4);
        pieces.add(List.of("bar", "gate", "flap", "bridge").get(kind));
        addSize(pieces, chance(4) ? any(-500, 1500, -501, 1501, 0, 9999, -1) : kind == 3 ? from(900, 2200) : from(-400, 250));
        if (kind == 1) {
            pieces.add(Integer.toString(chance(5) ? any(0, 600, 601) : from(0, 300)));
            pieces.add(Integer.toString(chance(5) ? any(0, 600, 601) : from(0, 300)));
        } else if (kind == 2) {
            pieces.add(Integer.toString(chance(5) ? any(0, 600, 601) : from(0, 90)));
            pieces.add(Integer.toString(chance(5) ? any(0, 600, 601, 9999) : from(100, 400)));
        }
        put(join(pieces));
        int port = number(plain.ports);
        compare("sill(" + port + ")", quick.sill(port), plain.sill(port));
    }

    private void ship() {
        List<String> pieces = new ArrayList<>();
        pieces.add(Integer.toString(chance(5) ? any(0, 1, 1500, 1501) : from(1, 250)));
        pieces.add(Integer.toString(chance(5) ? any(0, 9999) : from(300, 1300)));
        pieces.add(Integer.toString(chance(5) ? any(0, 1, 60, 61) : from(1, 20)));
        put(join(pieces));
        compare("ship()", quick.ship(), plain.ship());
    }

    private void route() {
        List<String> pieces = new ArrayList<>();
        int stops = chance(5) ? from(8, 12) : from(1, chance(30) ? 8 : 3);
        for (int i = 0; i < stops; i++) {
            if (i > 0) {
                pieces.add("/");
                pieces.add(Integer.toString(chance(3) ? any(0, 9999) : from(0, 60)));
            }
            pieces.add(Integer.toString(chance(2) ? 12 : plain.sills.isEmpty() ? 0 : random.nextInt(plain.sills.size())));
            int kind = random.nextInt(3);
            if (kind == 1 && chance(60)) {
                pieces.add("!");
            } else if (kind == 2) {
                pieces.add("~");
                addSize(pieces, chance(4) ? any(-500, 1500, -501, 1501) : from(-400, 200));
            }
        }
        put(join(pieces));
        compare("route()", quick.route(), plain.route());
    }

    // ---- questions

    /** Mostly one of the minutes of some port, or one nearby. */
    private int minute() {
        if (chance(3) || plain.ports.isEmpty()) {
            return any(-1, 0, 99999, 100000, Integer.MIN_VALUE, Integer.MAX_VALUE);
        }
        List<PlainHours.Turn> port = plain.ports.get(random.nextInt(plain.ports.size()));
        return from(Math.max(port.get(0).minute() - 30, 0), port.get(port.size() - 1).minute() + 3);
    }

    /** Early ones, from which a ship may still come through. */
    private int minuteToStart() {
        return chance(70) ? from(0, 400) : minute();
    }

    private int heightAsked() {
        return chance(4) ? any(-9999, 9999, -10000, 10000, Integer.MIN_VALUE, Integer.MAX_VALUE) : from(-300, 1000);
    }

    private void askPort() {
        int port = number(plain.ports);
        int i = chance(80) ? from(0, 3) : from(-1, 16);
        int what = chance(80) ? from(0, 2) : from(-1, 3);
        int t = minute();
        int h = heightAsked();
        switch (random.nextInt(7)) {
            case 0 -> compare("turns(" + port + ")", quick.turns(port), plain.turns(port));
            case 1 -> compare("turn(" + port + ", " + i + ", " + what + ")", quick.turn(port, i, what), plain.turn(port, i, what));
            case 2 -> compare("water(" + port + ", " + t + ")", quick.water(port, t), plain.water(port, t));
            case 3 -> {
                int near = chance(60) ? plain.water(port, t) + from(0, 1) : h;
                quick.water(port, t);
                compare("above(" + port + ", " + t + ", " + near + ")", quick.above(port, t, near), plain.above(port, t, near));
            }
            case 4 -> compare("rise(" + port + ", " + h + ", " + t + ")", quick.rise(port, h, t), plain.rise(port, h, t));
            case 5 -> compare("ebb(" + port + ", " + h + ", " + t + ")", quick.ebb(port, h, t), plain.ebb(port, h, t));
            default -> {
                int other = number(plain.ports);
                compare("same(" + port + ", " + other + ")", quick.same(port, other), plain.same(port, other));
            }
        }
    }

    private void askSill() {
        int sill = number(plain.sills);
        int ship = number(plain.ships);
        int k = chance(80) ? from(0, 1) : from(-1, 5);
        int what = chance(80) ? from(0, 1) : from(-1, 2);
        int t = minute();
        int at = chance(70) ? from(0, 9) : from(-1, 60);
        switch (random.nextInt(5)) {
            case 0 -> compare("hours(" + sill + ", " + ship + ")", quick.hours(sill, ship), plain.hours(sill, ship));
            case 1 -> compare("hour(" + sill + ", " + ship + ", " + k + ", " + what + ")",
                quick.hour(sill, ship, k, what), plain.hour(sill, ship, k, what));
            case 2 -> compare("minutes(" + sill + ", " + ship + ")", quick.minutes(sill, ship), plain.minutes(sill, ship));
            case 3 -> compare("good(" + sill + ", " + ship + ", " + t + ")", quick.good(sill, ship, t), plain.good(sill, ship, t));
            default -> compare("note(" + sill + ", " + ship + ", " + at + ")", quick.note(sill, ship, at), plain.note(sill, ship, at));
        }
    }

    private void askRoute() {
        int route = number(plain.routes);
        int ship = number(plain.ships);
        int i = chance(80) ? from(0, 2) : from(-1, 8);
        int t = minuteToStart();
        int by = minute();
        switch (random.nextInt(6)) {
            case 0 -> compare("stops(" + route + ")", quick.stops(route), plain.stops(route));
            case 1 -> compare("leg(" + route + ", " + ship + ", " + i + ")", quick.leg(route, ship, i), plain.leg(route, ship, i));
            case 2 -> compare("arrive(" + route + ", " + ship + ", " + t + ")", quick.arrive(route, ship, t), plain.arrive(route, ship, t));
            case 3 -> {
                for (int k = chance(10) ? -1 : 0; k < 3; k++) {
                    compare("pass(" + route + ", " + ship + ", " + t + ", " + k + ")",
                        quick.pass(route, ship, t, k), plain.pass(route, ship, t, k));
                }
            }
            case 4 -> compare("waits(" + route + ", " + ship + ", " + t + ")", quick.waits(route, ship, t), plain.waits(route, ship, t));
            default -> compare("start(" + route + ", " + ship + ", " + by + ")", quick.start(route, ship, by), plain.start(route, ship, by));
        }
    }

    private void askText() {
        int what = chance(90) ? from(0, 3) : from(-1, 5);
        List<?> row = what == 1 ? plain.sills : what == 2 ? plain.ships : what == 3 ? plain.routes : plain.ports;
        int number = number(row);
        int k = chance(80) ? from(0, 12) : from(-1, 200);
        if (chance(20)) {
            compare("count(" + what + ")", quick.count(what), plain.count(what));
        } else {
            compare("letter(" + what + ", " + number + ", " + k + ")", quick.letter(what, number, k), plain.letter(what, number, k));
        }
    }

    private void tell() {
        switch (random.nextInt(9)) {
            case 0, 1 -> port();
            case 2 -> longer();
            case 3 -> second();
            case 4, 5 -> sill();
            case 6 -> ship();
            default -> route();
        }
    }

    private boolean run(int seed) {
        while (quick.callsLeft() > CALLS_OF_A_TURN && !differs) {
            if (chance(plain.routes.size() < 3 ? 50 : 8)) {
                tell();
            }
            switch (random.nextInt(8)) {
                case 0, 1 -> askPort();
                case 2, 3 -> askSill();
                case 4, 5, 6 -> askRoute();
                default -> askText();
            }
        }
        if (differs) {
            System.out.println("run of seed " + seed + ":");
            for (String call : calls) {
                System.out.println("  " + call);
            }
        }
        return !differs;
    }

    public static void main(String[] args) {
        int first = args.length > 0 ? Integer.parseInt(args[0]) : 0;
        int runs = args.length > 1 ? Integer.parseInt(args[1]) : RUNS;
        for (int seed = first; seed < first + runs; seed++) {
            if (!new RandomRunsTest(seed).run(seed)) {
                System.exit(1);
            }
        }
        System.out.println(runs + " random runs answered as due");
    }
}
