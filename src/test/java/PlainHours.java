import java.util.ArrayList;
import java.util.List;

/**
 * What the document says, in the slowest and plainest way: each minute by itself, each pair of minutes by itself.
 * RandomRunsTest asks it and SillHours the same and compares what they answer.
 */
final class PlainHours {
    static final int BAD = -9999;

    record Piece(char kind, String text, int at) { }
    record Turn(boolean high, int minute, int height) { }
    record Sill(List<Turn> port, String word, int size, int one, int two) { }
    record Ship(int draught, int mast, int pace) { }
    record Stop(int miles, int sill, char kind, int size) { }

    private static final class Wrong extends Exception {
        private static final long serialVersionUID = 1L;
        final int at;

        Wrong(int at) {
            this.at = at;
        }
    }

    final List<List<Turn>> ports = new ArrayList<>();
    final List<Sill> sills = new ArrayList<>();
    final List<Ship> ships = new ArrayList<>();
    final List<List<Stop>> routes = new ArrayList<>();
    private String tape = "";
    private List<Piece> pieces = new ArrayList<>();
    private int next = 0;
    private int status = 0;
    private int place = BAD;
    private int fault = 0;

    // ---- the texts

    private static List<Piece> cut(String text) {
        List<Piece> all = new ArrayList<>();
        int i = 0;
        while (i < text.length()) {
            int from = i;
            String rest = text.substring(i);
            if (rest.matches("(?s)[a-z].*")) {
                i += rest.length() - rest.replaceFirst("[a-z]+", "").length();
                all.add(new Piece('w', text.substring(from, i), from));
            } else if (rest.matches("(?s)[0-9].*")) {
                i += rest.length() - rest.replaceFirst("[0-9]+", "").length();
                all.add(new Piece(i - from <= 4 ? 'n' : '?', text.substring(from, i), from));
            } else {
                i++;
                String sign = text.substring(from, i);
                if ("+-,/!~".contains(sign)) {
                    all.add(new Piece('m', sign, from));
                } else if (!sign.equals(" ")) {
                    all.add(new Piece('?', sign, from));
                }
            }
        }
        return all;
    }

    private Piece peek() {
        return next < pieces.size() ? pieces.get(next) : new Piece('e', "", tape.length());
    }

    private boolean sees(String text) {
        return peek().kind() != '?' && peek().text().equals(text);
    }

    private Piece want(char kind, String text) throws Wrong {
        Piece piece = peek();
        if (piece.kind() != kind || text != null && !piece.text().equals(text)) {
            throw new Wrong(piece.at());
        }
        next++;
        return piece;
    }

    private int number() throws Wrong {
        return Integer.parseInt(want('n', null).text());
    }

    private int size() throws Wrong {
        if (sees("-")) {
            next++;
            return -number();
        }
        return number();
    }

    private int step() throws Wrong {
        if (sees("+")) {
            next++;
            return number();
        }
        want('m', "-");
        return -number();
    }

    private void close() throws Wrong {
        if (peek().kind() != 'e') {
            throw new Wrong(peek().at());
        }
    }

    private interface Reading {
        int read() throws Wrong;
    }

    /** Reads a text; the reading answers a FAULT, 0 or -9 for no room, and keeps nothing itself. */
    private int text(Reading reading, Runnable keep, List<?> row) {
        pieces = cut(tape);
        next = 0;
        int verdict;
        try {
            place = BAD;
            fault = 0;
            verdict = reading.read();
        } catch (Wrong wrong) {
            place = wrong.at;
            tape = "";
            return refuse(2);
        }
        tape = "";
        if (verdict > 0) {
            fault = verdict;
            return refuse(4);
        }
        if (verdict < 0) {
            return refuse(9);
        }
        keep.run();
        return answer(row.size() - 1);
    }

    private int answer(int value) {
        status = 0;
        return value;
    }

    private int refuse(int why) {
        status = why;
        return BAD;
    }

    int feed(int a, int b, int c, int d, int e) {
        if (tape.length() + 20 > 120) {
            return refuse(9);
        }
        StringBuilder more = new StringBuilder(tape);
        for (int word : new int[] {a, b, c, d, e}) {
            for (int shift = 24; shift >= 0; shift -= 8) {
                more.append((char) (word >> shift & 255));
            }
        }
        tape = more.toString();
        return answer(tape.length());
    }

    int end(int n) {
        if (n < 0 || n > tape.length()) {
            return refuse(3);
        }
        tape = tape.substring(0, n);
        return answer(n);
    }

    /** Reads a text of a kind: p port(), l longer(), d second(), s sill(), h ship(), r route(). */
    int tell(char kind, int port, String text) {
        tape = text;
        switch (kind) {
            case 'p':
                return port();
            case 'l':
                return longer(port);
            case 'd':
                return second(port);
            case 's':
                return sill(port);
            case 'h':
                return ship();
            default:
                return route();
        }
    }

    private int table(List<Turn> base) {
        List<Turn> made = new ArrayList<>(base);
        return text(() -> {
            List<int[]> rows = new ArrayList<>();
            while (true) {
                boolean high = sees("hw");
                want('w', high ? "hw" : "lw");
                int time = number();
                rows.add(new int[] {high ? 1 : 0, time, size()});
                if (!sees(",")) {
                    break;
                }
                next++;
            }
            close();
            for (int[] row : rows) {
                int found = tableFault(made, row[0] == 1, row[1], row[2]);
                if (found != 0) {
                    return found;
                }
            }
            return made.size() > 16 || ports.size() == 8 ? -9 : 0;
        }, () -> ports.add(made), ports);
    }

    private static int tableFault(List<Turn> made, boolean high, int time, int height) {
        Turn ahead = made.isEmpty() ? null : made.get(made.size() - 1);
        if (time / 100 > 23 || time % 100 > 59) {
            return 1;
        }
        if (ahead != null && ahead.high() == high) {
            return 2;
        }
        if (height < -500 || height > 1500) {
            return 3;
        }
        if (ahead != null && (high ? height <= ahead.height() : height >= ahead.height())) {
            return 4;
        }
        int minute = 60 * (time / 100) + time % 100;
        while (ahead != null && minute <= ahead.minute()) {
            minute += 1440;
        }
        if (ahead != null && (minute - ahead.minute() < 60 || minute - ahead.minute() > 800)) {
            return 5;
        }
        made.add(new Turn(high, minute, height));
        return 0;
    }

    private static <T> boolean has(List<T> row, int number) {
        return number >= 0 && number < row.size();
    }

    private int unread() {
        tape = "";
        return refuse(1);
    }

    int port() {
        return table(List.of());
    }

    int longer(int port) {
        return has(ports, port) ? table(ports.get(port)) : unread();
    }

    private int[] shift() throws Wrong {
        int x = step();
        int p = size();
        int u = step();
        int q = size();
        return new int[] {x, p, u, q, step()};
    }

    private static boolean shiftIsSound(int[] s) {
        return s[1] >= -500 && s[1] <= 1500 && s[3] >= -500 && s[3] <= 1500 && s[1] != s[3]
            && Math.abs(s[0]) <= 300 && Math.abs(s[2]) <= 300 && Math.abs(s[4]) <= 300;
    }

    int second(int port) {
        if (!has(ports, port)) {
            return unread();
        }
        List<Turn> made = new ArrayList<>();
        return text(() -> {
            want('w', "hw");
            int[] high = shift();
            want('m', ",");
            want('w', "lw");
            int[] low = shift();
            close();
            if (!shiftIsSound(high) || !shiftIsSound(low)) {
                return 6;
            }
            for (Turn turn : ports.get(port)) {
                int[] s = turn.high() ? high : low;
                int h = turn.height();
                int height = h + s[2] + Math.floorDiv((s[4] - s[2]) * (h - s[1]), s[3] - s[1]);
                made.add(new Turn(turn.high(), turn.minute() + s[0], height));
            }
            for (int i = 0; i < made.size(); i++) {
                Turn turn = made.get(i);
                if (turn.height() < -500 || turn.height() > 1500) {
                    return 7;
                }
                if (i == 0 && (turn.minute() < 0 || turn.minute() > 1439)) {
                    return 7;
                }
                if (i > 0) {
                    Turn ahead = made.get(i - 1);
                    int gap = turn.minute() - ahead.minute();
                    int change = turn.height() - ahead.height();
                    if (gap < 60 || gap > 800 || (turn.high() ? change <= 0 : change >= 0)) {
                        return 7;
                    }
                }
            }
            return ports.size() == 8 ? -9 : 0;
        }, () -> ports.add(made), ports);
    }

    int sill(int port) {
        if (!has(ports, port)) {
            return unread();
        }
        Sill[] made = new Sill[1];
        return text(() -> {
            String word = peek().text();
            if (!List.of("bar", "gate", "flap", "bridge").contains(word)) {
                throw new Wrong(peek().at());
            }
            want('w', word);
            int size = size();
            boolean two = word.equals("gate") || word.equals("flap");
            made[0] = new Sill(ports.get(port), word, size, two ? number() : 0, two ? number() : 0);
            close();
            if (word.equals("bridge") ? size < 0 : size < -500 || size > 1500) {
                return 8;
            }
            if (made[0].one() > 600 || word.equals("gate") && made[0].two() > 600) {
                return 8;
            }
            return sills.size() == 12 ? -9 : 0;
        }, () -> sills.add(made[0]), sills);
    }

    int ship() {
        Ship[] made = new Ship[1];
        return text(() -> {
            made[0] = new Ship(number(), number(), number());
            close();
            Ship s = made[0];
            if (s.draught() < 1 || s.draught() > 1500 || s.pace() < 1 || s.pace() > 60) {
                return 9;
            }
            return ships.size() == 6 ? -9 : 0;
        }, () -> ships.add(made[0]), ships);
    }

    private Stop stop(int miles) throws Wrong {
        int n = number();
        if (sees("!")) {
            next++;
            return new Stop(miles, n, '!', 0);
        }
        if (sees("~")) {
            next++;
            return new Stop(miles, n, '~', size());
        }
        return new Stop(miles, n, ' ', 0);
    }

    int route() {
        List<Stop> made = new ArrayList<>();
        return text(() -> {
            made.add(stop(0));
            while (sees("/")) {
                next++;
                made.add(stop(number()));
            }
            close();
            for (Stop stop : made) {
                if (stop.sill() >= sills.size() || stop.size() < -500 || stop.size() > 1500) {
                    return 10;
                }
            }
            return made.size() > 8 || routes.size() == 8 ? -9 : 0;
        }, () -> routes.add(made), routes);
    }

    int place() {
        return place;
    }

    int fault() {
        return fault;
    }

    int status() {
        return status;
    }

    int count(int what) {
        int[] all = {ports.size(), sills.size(), ships.size(), routes.size(), tape.length()};
        return what < 0 || what > 4 ? refuse(3) : answer(all[what]);
    }

    // ---- the water

    int turns(int port) {
        return has(ports, port) ? answer(ports.get(port).size()) : refuse(1);
    }

    int turn(int port, int i, int what) {
        if (!has(ports, port) || !has(ports.get(port), i)) {
            return refuse(1);
        }
        Turn turn = ports.get(port).get(i);
        if (what < 0 || what > 2) {
            return refuse(3);
        }
        return answer(what == 0 ? turn.minute() : what == 1 ? turn.height() : turn.high() ? 1 : 0);
    }

    private static int first(List<Turn> port) {
        return port.get(0).minute();
    }

    private static int last(List<Turn> port) {
        return port.get(port.size() - 1).minute();
    }

    private static boolean isMinute(List<Turn> port, int t) {
        return t >= first(port) && t <= last(port);
    }

    private final java.util.Map<List<Turn>, long[][]> heightRows = new java.util.IdentityHashMap<>();

    private long[] height(List<Turn> port, int t) {
        long[][] row = heightRows.computeIfAbsent(port, key -> new long[13501][]);
        if (row[t] == null) {
            row[t] = reckonHeight(port, t);
        }
        return row[t];
    }

    /** The HEIGHT as a numerator and a denominator above 0. */
    private static long[] reckonHeight(List<Turn> port, int t) {
        for (Turn turn : port) {
            if (turn.minute() == t) {
                return new long[] {turn.height(), 1};
            }
        }
        for (int i = 0; ; i++) {
            Turn one = port.get(i);
            Turn two = port.get(i + 1);
            if (one.minute() < t && t < two.minute()) {
                long d = two.minute() - one.minute();
                long r = 6L * (t - one.minute()) % d;
                int part = (int) (6L * (t - one.minute()) / d);
                long a = new long[] {0, 1, 3, 6, 9, 11}[part];
                long b = new long[] {1, 2, 3, 3, 2, 1}[part];
                return new long[] {one.height() * 12L * d + (two.height() - one.height()) * (a * d + b * r), 12 * d};
            }
        }
    }

    private boolean atLeast(List<Turn> port, int t, int h) {
        long[] height = height(port, t);
        return height[0] >= h * height[1];
    }

    int water(int port, int t) {
        if (!has(ports, port) || !isMinute(ports.get(port), t)) {
            return refuse(1);
        }
        long[] height = height(ports.get(port), t);
        return answer((int) Math.floorDiv(height[0], height[1]));
    }

    int above(int port, int t, int h) {
        if (!has(ports, port) || !isMinute(ports.get(port), t)) {
            return refuse(1);
        }
        if (h < -9999 || h > 9999) {
            return refuse(3);
        }
        return answer(atLeast(ports.get(port), t, h) ? 1 : 0);
    }

    private int seek(int port, int h, int t, boolean wanted) {
        if (!has(ports, port)) {
            return refuse(1);
        }
        if (h < -9999 || h > 9999) {
            return refuse(3);
        }
        List<Turn> p = ports.get(port);
        for (int m = first(p); m <= last(p); m++) {
            if (m >= t && atLeast(p, m, h) == wanted) {
                return answer(m);
            }
        }
        return answer(-1);
    }

    int rise(int port, int h, int t) {
        return seek(port, h, t, true);
    }

    int ebb(int port, int h, int t) {
        return seek(port, h, t, false);
    }

    // ---- sills and ships

    private boolean isGood(Sill sill, Ship ship, int t) {
        List<Turn> port = sill.port();
        if (!isMinute(port, t)) {
            return false;
        }
        switch (sill.word()) {
            case "bar":
                return atLeast(port, t, sill.size() + ship.draught());
            case "gate":
                boolean near = false;
                for (Turn turn : port) {
                    near |= turn.high() && turn.minute() - t <= sill.one() && t - turn.minute() <= sill.two();
                }
                return near && atLeast(port, t, sill.size() + ship.draught());
            case "flap":
                for (int m = t; m >= t - sill.one(); m--) {
                    if (!isMinute(port, m) || !atLeast(port, m, sill.size())) {
                        return false;
                    }
                }
                return ship.draught() <= sill.two();
            default:
                long[] height = height(port, t);
                return height[0] + ship.mast() * height[1] <= sill.size() * height[1];
        }
    }

    private final java.util.Map<List<Object>, boolean[]> goodRows = new java.util.HashMap<>();

    /** From 0 to 13500, beyond which no port has a minute. */
    private boolean[] goodRow(Sill sill, Ship ship) {
        return goodRows.computeIfAbsent(List.of(sill, ship), key -> {
            boolean[] row = new boolean[13501];
            for (int t = 0; t < row.length; t++) {
                row[t] = isGood(sill, ship, t);
            }
            return row;
        });
    }

    private List<int[]> windows(int sill, int ship) {
        boolean[] row = goodRow(sills.get(sill), ships.get(ship));
        List<int[]> all = new ArrayList<>();
        for (int t = 0; t < row.length; t++) {
            if (row[t] && (t == 0 || !row[t - 1])) {
                all.add(new int[] {t, t});
            }
            if (row[t]) {
                all.get(all.size() - 1)[1] = t;
            }
        }
        return all;
    }

    private boolean noPair(int sill, int ship) {
        return !has(sills, sill) || !has(ships, ship);
    }

    int hours(int sill, int ship) {
        return noPair(sill, ship) ? refuse(1) : answer(windows(sill, ship).size());
    }

    int hour(int sill, int ship, int k, int what) {
        if (noPair(sill, ship) || !has(windows(sill, ship), k)) {
            return refuse(1);
        }
        return what < 0 || what > 1 ? refuse(3) : answer(windows(sill, ship).get(k)[what]);
    }

    private int goodCount(int sill, int ship) {
        int all = 0;
        for (boolean good : goodRow(sills.get(sill), ships.get(ship))) {
            all += good ? 1 : 0;
        }
        return all;
    }

    int minutes(int sill, int ship) {
        return noPair(sill, ship) ? refuse(1) : answer(goodCount(sill, ship));
    }

    int good(int sill, int ship, int t) {
        return noPair(sill, ship) ? refuse(1) : answer(isGood(sills.get(sill), ships.get(ship), t) ? 1 : 0);
    }

    private static String time(int t) {
        return String.format("%02d%02d", t / 60 % 24, t % 60);
    }

    private static String dayTime(int t) {
        return time(t) + (t / 1440 > 0 ? "+" + t / 1440 : "");
    }

    private String noteText(int sill, int ship) {
        List<Turn> port = sills.get(sill).port();
        int all = goodCount(sill, ship);
        if (all == 0) {
            return "shut";
        }
        if (all == last(port) - first(port) + 1) {
            return "open";
        }
        List<String> parts = new ArrayList<>();
        for (int[] w : windows(sill, ship)) {
            parts.add(w[0] == w[1] ? dayTime(w[0]) : dayTime(w[0]) + "-" + dayTime(w[1]));
        }
        return String.join(", ", parts);
    }

    private int letterOf(String text, int k) {
        return k < 0 || k >= text.length() ? refuse(1) : answer(text.charAt(k));
    }

    int note(int sill, int ship, int k) {
        return noPair(sill, ship) ? refuse(1) : letterOf(noteText(sill, ship), k);
    }

    // ---- routes

    int stops(int route) {
        return has(routes, route) ? answer(routes.get(route).size()) : refuse(1);
    }

    private static int legOf(Stop stop, Ship ship) {
        return (stop.miles() * ship.pace() + 9) / 10;
    }

    int leg(int route, int ship, int i) {
        if (!has(routes, route) || !has(ships, ship) || !has(routes.get(route), i)) {
            return refuse(1);
        }
        return answer(i == 0 ? 0 : legOf(routes.get(route).get(i), ships.get(ship)));
    }

    /** Whether a ship that arrives at a may pass at m; from[m] is the first of the deep numbers up to m, or m + 1. */
    private static boolean mayPass(Stop stop, boolean[] good, int[] from, int a, int m) {
        if (m < a || !good[m]) {
            return false;
        }
        return m == a || stop.kind() == ' ' || stop.kind() == '~' && from[m] <= a;
    }

    private int[] deepFrom(Stop stop, Ship ship) {
        List<Turn> port = sills.get(stop.sill()).port();
        int[] from = new int[13501];
        for (int m = 0; m < from.length; m++) {
            boolean deep = isMinute(port, m) && atLeast(port, m, stop.size() + ship.draught());
            from[m] = !deep ? m + 1 : m > 0 ? from[m - 1] : 0;
        }
        return from;
    }

    private int planRoute = -1;
    private int planShip = -1;
    private int planFrom = -1;
    private int[] planned = null;

    /** The PLAN's minutes, or null. */
    int[] plan(int route, int ship, int t) {
        if (planRoute == route && planShip == ship && planFrom == t) {
            return planned;
        }
        planRoute = route;
        planShip = ship;
        planFrom = t;
        planned = makePlan(routes.get(route), ships.get(ship), t);
        return planned;
    }

    private int[] makePlan(List<Stop> stops, Ship ship, int t) {
        int n = stops.size();
        boolean[][] reach = new boolean[n][13501];
        boolean[][] good = new boolean[n][];
        int[][] from = new int[n][];
        for (int i = 0; i < n; i++) {
            good[i] = goodRow(sills.get(stops.get(i).sill()), ship);
            from[i] = deepFrom(stops.get(i), ship);
            for (int m = 0; m <= 13500; m++) {
                if (!good[i][m]) {
                    continue;
                }
                if (i == 0) {
                    reach[0][m] = mayPass(stops.get(0), good[0], from[0], t, m);
                }
                for (int p = 0; i > 0 && p <= m && !reach[i][m]; p++) {
                    reach[i][m] = reach[i - 1][p]
                        && mayPass(stops.get(i), good[i], from[i], p + legOf(stops.get(i), ship), m);
                }
            }
        }
        int[] passes = new int[n];
        int m = 0;
        while (m <= 13500 && !reach[n - 1][m]) {
            m++;
        }
        if (m > 13500) {
            return null;
        }
        passes[n - 1] = m;
        for (int i = n - 2; i >= 0; i--) {
            int leg = legOf(stops.get(i + 1), ship);
            int p = passes[i + 1];
            while (!(reach[i][p] && mayPass(stops.get(i + 1), good[i + 1], from[i + 1], p + leg, passes[i + 1]))) {
                p--;
            }
            passes[i] = p;
        }
        return passes;
    }

    private boolean noVoyage(int route, int ship) {
        return !has(routes, route) || !has(ships, ship);
    }

    int arrive(int route, int ship, int t) {
        if (noVoyage(route, ship)) {
            return refuse(1);
        }
        if (t < 0 || t > 99999) {
            return refuse(3);
        }
        int[] passes = plan(route, ship, t);
        return answer(passes == null ? -1 : passes[passes.length - 1]);
    }

    int pass(int route, int ship, int t, int i) {
        if (noVoyage(route, ship) || !has(routes.get(route), i)) {
            return refuse(1);
        }
        if (t < 0 || t > 99999) {
            return refuse(3);
        }
        int[] passes = plan(route, ship, t);
        return answer(passes == null ? -1 : passes[i]);
    }

    int waits(int route, int ship, int t) {
        if (noVoyage(route, ship)) {
            return refuse(1);
        }
        if (t < 0 || t > 99999) {
            return refuse(3);
        }
        int[] passes = plan(route, ship, t);
        if (passes == null) {
            return answer(-1);
        }
        int all = passes[0] - t;
        for (int i = 1; i < passes.length; i++) {
            int arrives = passes[i - 1] + legOf(routes.get(route).get(i), ships.get(ship));
            all += passes[i] - arrives;
        }
        return answer(all);
    }

    int start(int route, int ship, int t) {
        if (noVoyage(route, ship)) {
            return refuse(1);
        }
        if (t < 0 || t > 99999) {
            return refuse(3);
        }
        List<Stop> stops = routes.get(route);
        Ship sailing = ships.get(ship);
        boolean[] can = new boolean[13501];
        java.util.Arrays.fill(can, 0, Math.min(t, 13500) + 1, true);
        for (int i = stops.size() - 1; i >= 0; i--) {
            Stop stop = stops.get(i);
            boolean[] good = goodRow(sills.get(stop.sill()), sailing);
            int[] from = deepFrom(stop, sailing);
            int leg = i == 0 ? 0 : legOf(stop, sailing);
            boolean[] before = new boolean[13501];
            boolean[] goodAhead = i == 0 ? null : goodRow(sills.get(stops.get(i - 1).sill()), sailing);
            for (int m = 0; m <= 13500; m++) {
                for (int p = 0; can[m] && good[m] && p <= m - leg; p++) {
                    before[p] |= (i == 0 || goodAhead[p]) && mayPass(stop, good, from, p + leg, m);
                }
            }
            can = before;
        }
        int s = 13500;
        while (s >= 0 && !can[s]) {
            s--;
        }
        return answer(s);
    }

    // ---- what is written

    private static String portText(List<Turn> port) {
        List<String> parts = new ArrayList<>();
        for (Turn turn : port) {
            parts.add((turn.high() ? "hw" : "lw") + time(turn.minute()) + " " + turn.height());
        }
        return String.join(",", parts);
    }

    private static String sillText(Sill sill) {
        boolean two = sill.word().equals("gate") || sill.word().equals("flap");
        return sill.word() + " " + sill.size() + (two ? " " + sill.one() + " " + sill.two() : "");
    }

    private static String routeText(List<Stop> stops) {
        StringBuilder all = new StringBuilder();
        for (int i = 0; i < stops.size(); i++) {
            Stop stop = stops.get(i);
            all.append(i == 0 ? "" : " /" + stop.miles() + " ").append(stop.sill());
            all.append(stop.kind() == '!' ? "!" : stop.kind() == '~' ? "~" + stop.size() : "");
        }
        return all.toString();
    }

    int letter(int what, int number, int k) {
        if (what < 0 || what > 3) {
            return refuse(3);
        }
        if (!has(List.of(ports, sills, ships, routes).get(what), number)) {
            return refuse(1);
        }
        if (what == 2) {
            Ship s = ships.get(number);
            return letterOf(s.draught() + " " + s.mast() + " " + s.pace(), k);
        }
        return letterOf(what == 0 ? portText(ports.get(number)) : what == 1 ? sillText(sills.get(number))
            : routeText(routes.get(number)), k);
    }

    int same(int one, int other) {
        if (!has(ports, one) || !has(ports, other)) {
            return refuse(1);
        }
        return answer(portText(ports.get(one)).equals(portText(ports.get(other))) ? 1 : 0);
    }
}
