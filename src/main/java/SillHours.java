/**
 * Tides over sills: ports and their waters, sills, ships and routes, each told by a text on a tape.
 * Every call answers: a refused one BAD, and status() tells why.
 */
public final class SillHours {
    public static final int BAD = -9999;

    private static final int TAKEN = 0;
    private static final int NONE_SUCH = 1;
    private static final int TEXT_WRONG = 2;
    private static final int NUMBER_WRONG = 3;
    private static final int HAS_FAULT = 4;
    private static final int NO_ROOM = 9;

    private static final int MOST_PORTS = 8;
    private static final int MOST_SILLS = 12;
    private static final int MOST_SHIPS = 6;
    private static final int MOST_ROUTES = 8;

    private static final int FED_BYTES = 20;
    private static final int NOWHERE = -1;
    private static final int GREATEST_HEIGHT_ASKED = 9999;
    private static final int LATEST_NUMBER_ASKED = 99999;

    private final Tape tape = new Tape();
    private final PortDraft portDraft = new PortDraft();
    private final Route routeDraft = new Route(Route.ROOM_ON_TAPE);
    private final Port[] ports = new Port[MOST_PORTS];
    private final Sill[] sills = new Sill[MOST_SILLS];
    private final Ship[] ships = new Ship[MOST_SHIPS];
    private final Route[] routes = new Route[MOST_ROUTES];
    private final Windows windows = new Windows();
    private final Spans stretches = new Spans(Windows.ROOM);
    private final Planner planner = new Planner();
    private final Page page = new Page();
    private int portCount = 0;
    private int sillCount = 0;
    private int shipCount = 0;
    private int routeCount = 0;
    private int lastStatus = TAKEN;
    private int lastPlace = BAD;
    private int lastFault = 0;

    public SillHours() {
    }

    public int feed(int a, int b, int c, int d, int e) {
        if (!tape.hasRoomFor(FED_BYTES)) {
            return refuse(NO_ROOM);
        }
        tape.append(a);
        tape.append(b);
        tape.append(c);
        tape.append(d);
        tape.append(e);
        return answer(tape.size());
    }

    public int end(int n) {
        if (n < 0 || n > tape.size()) {
            return refuse(NUMBER_WRONG);
        }
        tape.keepFirst(n);
        return answer(n);
    }

    public int port() {
        return addTable(null);
    }

    public int longer(int port) {
        Port base = portAt(port);
        if (base == null) {
            return refuseUnread();
        }
        return addTable(base);
    }

    public int second(int port) {
        Port base = portAt(port);
        if (base == null) {
            return refuseUnread();
        }
        tape.rewind();
        portDraft.readDifferences(tape);
        if (!textWasRight()) {
            return refuse(TEXT_WRONG);
        }
        return keepPort(portDraft.shiftFrom(base));
    }

    public int sill(int port) {
        Port base = portAt(port);
        if (base == null) {
            return refuseUnread();
        }
        Sill read = new Sill(base);
        tape.rewind();
        read.readFrom(tape);
        if (!textWasRight()) {
            return refuse(TEXT_WRONG);
        }
        int verdict = judge(read.findFault(), sillCount < MOST_SILLS);
        if (verdict != TAKEN) {
            return refuse(verdict);
        }
        sills[sillCount] = read;
        sillCount++;
        return answer(sillCount - 1);
    }

    public int ship() {
        Ship read = new Ship();
        tape.rewind();
        read.readFrom(tape);
        if (!textWasRight()) {
            return refuse(TEXT_WRONG);
        }
        int verdict = judge(read.findFault(), shipCount < MOST_SHIPS);
        if (verdict != TAKEN) {
            return refuse(verdict);
        }
        ships[shipCount] = read;
        shipCount++;
        return answer(shipCount - 1);
    }

    public int route() {
        tape.rewind();
        routeDraft.readFrom(tape);
        if (!textWasRight()) {
            return refuse(TEXT_WRONG);
        }
        boolean room = routeCount < MOST_ROUTES && routeDraft.stopCount() <= Route.MOST_STOPS;
        int verdict = judge(routeDraft.findFault(sillCount), room);
        if (verdict != TAKEN) {
            return refuse(verdict);
        }
        Route kept = new Route(Route.MOST_STOPS);
        kept.copyFrom(routeDraft);
        for (int i = 0; i < kept.stopCount(); i++) {
            kept.setSill(i, sillAt(kept.sillNumberOf(i)));
        }
        routes[routeCount] = kept;
        routeCount++;
        return answer(routeCount - 1);
    }

    public int place() {
        return lastPlace;
    }

    public int fault() {
        return lastFault;
    }

    public int count(int what) {
        switch (what) {
            case 0:
                return answer(portCount);
            case 1:
                return answer(sillCount);
            case 2:
                return answer(shipCount);
            case 3:
                return answer(routeCount);
            case 4:
                return answer(tape.size());
            default:
                return refuse(NUMBER_WRONG);
        }
    }

    public int turns(int port) {
        Port asked = portAt(port);
        if (asked == null) {
            return refuse(NONE_SUCH);
        }
        return answer(asked.turnCount());
    }

    public int turn(int port, int i, int what) {
        Port asked = portAt(port);
        if (asked == null || i < 0 || i >= asked.turnCount()) {
            return refuse(NONE_SUCH);
        }
        switch (what) {
            case 0:
                return answer(asked.minuteOf(i));
            case 1:
                return answer(asked.heightOf(i));
            case 2:
                return answer(asked.isHigh(i) ? 1 : 0);
            default:
                return refuse(NUMBER_WRONG);
        }
    }

    public int water(int port, int t) {
        Port asked = portAt(port);
        if (asked == null || !asked.hasMinute(t)) {
            return refuse(NONE_SUCH);
        }
        return answer(asked.wholeHeightAt(t));
    }

    public int above(int port, int t, int h) {
        Port asked = portAt(port);
        if (asked == null || !asked.hasMinute(t)) {
            return refuse(NONE_SUCH);
        }
        if (!isHeightToAsk(h)) {
            return refuse(NUMBER_WRONG);
        }
        return answer(asked.wholeHeightAt(t) >= h ? 1 : 0);
    }

    public int rise(int port, int h, int t) {
        return firstMinuteWhere(Port.AT_LEAST, port, h, t);
    }

    public int ebb(int port, int h, int t) {
        return firstMinuteWhere(Port.BELOW, port, h, t);
    }

    public int hours(int sill, int ship) {
        if (!findWindows(sill, ship)) {
            return refuse(NONE_SUCH);
        }
        return answer(windows.found().size());
    }

    public int hour(int sill, int ship, int k, int what) {
        if (!findWindows(sill, ship) || k < 0 || k >= windows.found().size()) {
            return refuse(NONE_SUCH);
        }
        switch (what) {
            case 0:
                return answer(windows.found().firstOf(k));
            case 1:
                return answer(windows.found().lastOf(k));
            default:
                return refuse(NUMBER_WRONG);
        }
    }

    public int minutes(int sill, int ship) {
        if (!findWindows(sill, ship)) {
            return refuse(NONE_SUCH);
        }
        return answer(windows.found().countAll());
    }

    public int good(int sill, int ship, int t) {
        if (!findWindows(sill, ship)) {
            return refuse(NONE_SUCH);
        }
        return answer(windows.found().has(t) ? 1 : 0);
    }

    public int note(int sill, int ship, int k) {
        if (!findWindows(sill, ship)) {
            return refuse(NONE_SUCH);
        }
        page.writeNote(windows.found(), windows.areAlways());
        return answerLetter(k);
    }

    public int stops(int route) {
        Route asked = routeAt(route);
        if (asked == null) {
            return refuse(NONE_SUCH);
        }
        return answer(asked.stopCount());
    }

    public int leg(int route, int ship, int i) {
        Route asked = routeAt(route);
        Ship sailing = shipAt(ship);
        if (asked == null || sailing == null || i < 0 || i >= asked.stopCount()) {
            return refuse(NONE_SUCH);
        }
        return answer(sailing.minutesFor(asked.milesTo(i)));
    }

    public int arrive(int route, int ship, int t) {
        Route asked = routeAt(route);
        Ship sailing = shipAt(ship);
        if (asked == null || sailing == null) {
            return refuse(NONE_SUCH);
        }
        if (!isNumberToAsk(t)) {
            return refuse(NUMBER_WRONG);
        }
        boolean found = planner.plan(asked, sailing, t);
        return answer(found ? planner.passOf(asked.stopCount() - 1) : NOWHERE);
    }

    public int pass(int route, int ship, int t, int i) {
        Route asked = routeAt(route);
        Ship sailing = shipAt(ship);
        if (asked == null || sailing == null || i < 0 || i >= asked.stopCount()) {
            return refuse(NONE_SUCH);
        }
        if (!isNumberToAsk(t)) {
            return refuse(NUMBER_WRONG);
        }
        boolean found = planner.plan(asked, sailing, t);
        return answer(found ? planner.passOf(i) : NOWHERE);
    }

    public int waits(int route, int ship, int t) {
        Route asked = routeAt(route);
        Ship sailing = shipAt(ship);
        if (asked == null || sailing == null) {
            return refuse(NONE_SUCH);
        }
        if (!isNumberToAsk(t)) {
            return refuse(NUMBER_WRONG);
        }
        boolean found = planner.plan(asked, sailing, t);
        return answer(found ? planner.waitedFrom(t, asked, sailing) : NOWHERE);
    }

    public int start(int route, int ship, int t) {
        Route asked = routeAt(route);
        Ship sailing = shipAt(ship);
        if (asked == null || sailing == null) {
            return refuse(NONE_SUCH);
        }
        if (!isNumberToAsk(t)) {
            return refuse(NUMBER_WRONG);
        }
        int latest = planner.latestStart(asked, sailing, t);
        return answer(latest == Spans.NONE ? NOWHERE : latest);
    }

    public int letter(int what, int number, int k) {
        if (what < 0 || what > 3) {
            return refuse(NUMBER_WRONG);
        }
        writeOut(what, number);
        return answerLetter(k);
    }

    public int same(int one, int other) {
        Port left = portAt(one);
        Port right = portAt(other);
        if (left == null || right == null) {
            return refuse(NONE_SUCH);
        }
        return answer(left.isWrittenAs(right) ? 1 : 0);
    }

    public int status() {
        return lastStatus;
    }

    private int answer(int value) {
        lastStatus = TAKEN;
        return value;
    }

    private int refuse(int why) {
        lastStatus = why;
        return BAD;
    }

    /** A text that goes with a port that is not there is dropped unread, so place() and fault() stay. */
    private int refuseUnread() {
        tape.keepFirst(0);
        return refuse(NONE_SUCH);
    }

    private int answerLetter(int k) {
        if (k < 0 || k >= page.size()) {
            return refuse(NONE_SUCH);
        }
        return answer(page.letterAt(k));
    }

    private boolean textWasRight() {
        boolean right = tape.isReadWhole();
        lastPlace = right ? BAD : tape.readTo();
        lastFault = 0;
        tape.keepFirst(0);
        return right;
    }

    private int judge(int faultFound, boolean room) {
        lastFault = faultFound;
        if (faultFound != 0) {
            return HAS_FAULT;
        }
        return room ? TAKEN : NO_ROOM;
    }

    private int addTable(Port base) {
        tape.rewind();
        portDraft.readTable(tape);
        if (!textWasRight()) {
            return refuse(TEXT_WRONG);
        }
        return keepPort(portDraft.followOn(base));
    }

    private int keepPort(int faultFound) {
        Port made = portDraft.made();
        boolean room = portCount < MOST_PORTS && made.turnCount() <= Port.MOST_TURNS;
        int verdict = judge(faultFound, room);
        if (verdict != TAKEN) {
            return refuse(verdict);
        }
        Port kept = new Port(Port.MOST_TURNS);
        kept.copyFrom(made);
        ports[portCount] = kept;
        portCount++;
        return answer(portCount - 1);
    }

    private Port portAt(int number) {
        return number >= 0 && number < portCount && number < MOST_PORTS ? ports[number] : null;
    }

    private Sill sillAt(int number) {
        return number >= 0 && number < sillCount && number < MOST_SILLS ? sills[number] : null;
    }

    private Ship shipAt(int number) {
        return number >= 0 && number < shipCount && number < MOST_SHIPS ? ships[number] : null;
    }

    private Route routeAt(int number) {
        return number >= 0 && number < routeCount && number < MOST_ROUTES ? routes[number] : null;
    }

    private static boolean isHeightToAsk(int h) {
        return h >= -GREATEST_HEIGHT_ASKED && h <= GREATEST_HEIGHT_ASKED;
    }

    private static boolean isNumberToAsk(int t) {
        return t >= 0 && t <= LATEST_NUMBER_ASKED;
    }

    private int firstMinuteWhere(int side, int port, int h, int t) {
        Port asked = portAt(port);
        if (asked == null) {
            return refuse(NONE_SUCH);
        }
        if (!isHeightToAsk(h)) {
            return refuse(NUMBER_WRONG);
        }
        asked.collect(side, h, stretches);
        int found = stretches.earliestFrom(t);
        return answer(found == Spans.NONE ? NOWHERE : found);
    }

    private boolean findWindows(int sill, int ship) {
        Sill asked = sillAt(sill);
        Ship passing = shipAt(ship);
        if (asked == null || passing == null) {
            return false;
        }
        windows.find(asked, passing);
        return true;
    }

    /** Of one that is not there nothing is written, so that no letter of it is found. */
    private void writeOut(int what, int number) {
        switch (what) {
            case 0:
                page.writePort(portAt(number));
                break;
            case 1:
                page.writeSill(sillAt(number));
                break;
            case 2:
                page.writeShip(shipAt(number));
                break;
            default:
                page.writeRoute(routeAt(number));
                break;
        }
    }

    /**
     * The bytes that were fed, and how far they have been read. Blanks behind a piece are skipped with it,
     * so where reading stops is always where the text is wrong: at a piece, or at the tape's length.
     */
    private static final class Tape {
        private static final int ROOM = 120;
        private static final int MOST_DIGITS = 4;

        private final byte[] bytes = new byte[ROOM];
        private int size = 0;
        private int at = 0;
        private boolean wrong = false;

        int size() {
            return size;
        }

        boolean hasRoomFor(int more) {
            return size + more <= ROOM;
        }

        void append(int fourBytes) {
            for (int shift = 24; shift >= 0; shift -= 8) {
                if (size >= 0 && size < ROOM) {
                    bytes[size] = (byte) (fourBytes >>> shift);
                    size++;
                }
            }
        }

        void keepFirst(int n) {
            if (n >= 0 && n <= size) {
                size = n;
            }
        }

        void rewind() {
            wrong = false;
            moveTo(0);
        }

        int readTo() {
            return at;
        }

        boolean isReadWhole() {
            return !wrong && at >= size;
        }

        boolean takeMark(char mark) {
            if (wrong || byteAt(at) != mark) {
                return false;
            }
            moveTo(at + 1);
            return true;
        }

        void wantMark(char mark) {
            if (!takeMark(mark)) {
                wrong = true;
            }
        }

        boolean takeWord(String word) {
            if (wrong || isLetter(byteAt(at + word.length()))) {
                return false;
            }
            for (int i = 0; i < word.length(); i++) {
                if (byteAt(at + i) != word.charAt(i)) {
                    return false;
                }
            }
            moveTo(at + word.length());
            return true;
        }

        void wantWord(String word) {
            if (!takeWord(word)) {
                wrong = true;
            }
        }

        int wantNumber() {
            int digits = 0;
            int value = 0;
            while (digits <= MOST_DIGITS && isDigit(byteAt(at + digits))) {
                value = value * 10 + byteAt(at + digits) - '0';
                digits++;
            }
            if (wrong || digits == 0 || digits > MOST_DIGITS) {
                wrong = true;
                return 0;
            }
            moveTo(at + digits);
            return value;
        }

        int wantSize() {
            boolean isBelow = takeMark('-');
            int value = wantNumber();
            return isBelow ? -value : value;
        }

        int wantStep() {
            if (takeMark('+')) {
                return wantNumber();
            }
            wantMark('-');
            return -wantNumber();
        }

        private void moveTo(int next) {
            at = next;
            while (at >= 0 && at < size && at < ROOM && bytes[at] == ' ') {
                at++;
            }
        }

        private int byteAt(int i) {
            return i >= 0 && i < size && i < ROOM ? bytes[i] : -1;
        }

        private static boolean isLetter(int sign) {
            return sign >= 'a' && sign <= 'z';
        }

        private static boolean isDigit(int sign) {
            return sign >= '0' && sign <= '9';
        }
    }

    /** The differences of high waters, or of low ones, at a second port. */
    private static final class Shift {
        private static final int MOST_STEP = 300;

        private int later = 0;
        private int firstHeight = 0;
        private int firstStep = 0;
        private int otherHeight = 0;
        private int otherStep = 0;

        void readFrom(Tape tape) {
            later = tape.wantStep();
            firstHeight = tape.wantSize();
            firstStep = tape.wantStep();
            otherHeight = tape.wantSize();
            otherStep = tape.wantStep();
        }

        boolean isSound() {
            return Port.isHeight(firstHeight) && Port.isHeight(otherHeight) && firstHeight != otherHeight
                && isStep(later) && isStep(firstStep) && isStep(otherStep);
        }

        int minuteFor(int minute) {
            return minute + later;
        }

        int heightFor(int height) {
            int span = otherHeight - firstHeight;
            if (span == 0) {
                return height;
            }
            return height + firstStep + Math.floorDiv((otherStep - firstStep) * (height - firstHeight), span);
        }

        private static boolean isStep(int step) {
            return step >= -MOST_STEP && step <= MOST_STEP;
        }
    }

    /** A text of a table or of differences, and the turns that come of it before they are found sound. */
    private static final class PortDraft {
        /** 120 bytes hold 20 turns at most: the shortest is six bytes with its comma. */
        private static final int ROOM_ON_TAPE = 24;
        private static final int SHIFT_UNSOUND = 6;
        private static final int SHIFTED_UNSOUND = 7;

        private final boolean[] highs = new boolean[ROOM_ON_TAPE];
        private final int[] times = new int[ROOM_ON_TAPE];
        private final int[] heights = new int[ROOM_ON_TAPE];
        private int size = 0;
        private final Shift shiftOfHigh = new Shift();
        private final Shift shiftOfLow = new Shift();
        private final Port made = new Port(Port.MOST_TURNS + ROOM_ON_TAPE);

        Port made() {
            return made;
        }

        void readTable(Tape tape) {
            size = 0;
            readTurn(tape);
            for (int turns = 1; turns < ROOM_ON_TAPE && tape.takeMark(','); turns++) {
                readTurn(tape);
            }
        }

        void readDifferences(Tape tape) {
            tape.wantWord("hw");
            shiftOfHigh.readFrom(tape);
            tape.wantMark(',');
            tape.wantWord("lw");
            shiftOfLow.readFrom(tape);
        }

        /** Puts the turns of the table behind those of a port, or behind none; tells the fault. */
        int followOn(Port base) {
            made.clear();
            if (base != null) {
                made.copyFrom(base);
            }
            for (int i = 0; i < size && i < ROOM_ON_TAPE; i++) {
                int found = made.faultOfNext(highs[i], times[i], heights[i]);
                if (found != 0) {
                    return found;
                }
                made.add(highs[i], made.minuteOfNext(times[i]), heights[i]);
            }
            return 0;
        }

        int shiftFrom(Port base) {
            made.clear();
            if (!shiftOfHigh.isSound() || !shiftOfLow.isSound()) {
                return SHIFT_UNSOUND;
            }
            for (int i = 0; i < base.turnCount(); i++) {
                boolean isHigh = base.isHigh(i);
                Shift shift = isHigh ? shiftOfHigh : shiftOfLow;
                int minute = shift.minuteFor(base.minuteOf(i));
                int height = shift.heightFor(base.heightOf(i));
                boolean starts = i > 0 || (minute >= 0 && minute < Port.DAY);
                if (!starts || made.faultOfHeight(isHigh, height) != 0 || made.faultOfMinute(minute) != 0) {
                    return SHIFTED_UNSOUND;
                }
                made.add(isHigh, minute, height);
            }
            return 0;
        }

        private void readTurn(Tape tape) {
            boolean isHigh = tape.takeWord("hw");
            if (!isHigh) {
                tape.wantWord("lw");
            }
            int time = tape.wantNumber();
            int height = tape.wantSize();
            if (size < ROOM_ON_TAPE) {
                highs[size] = isHigh;
                times[size] = time;
                heights[size] = height;
                size++;
            }
        }
    }

    /** The turns of a port, and the water between them. */
    private static final class Port {
        static final int MOST_TURNS = 16;
        static final int DAY = 1440;
        static final int AT_LEAST = 0;
        static final int BELOW = 1;
        static final int AT_MOST = 2;

        private static final int LEAST_HEIGHT = -500;
        private static final int MOST_HEIGHT = 1500;
        private static final int LEAST_GAP = 60;
        private static final int MOST_GAP = 800;
        private static final int TIME_UNSOUND = 1;
        private static final int ORDER_UNSOUND = 2;
        private static final int HEIGHT_UNSOUND = 3;
        private static final int CHANGE_UNSOUND = 4;
        private static final int GAP_UNSOUND = 5;
        private static final int[] TWELFTHS_OVER = {0, 1, 3, 6, 9, 11};
        private static final int[] TWELFTHS_NEXT = {1, 2, 3, 3, 2, 1};
        /** Halving a gap of 800 minutes ends in ten steps. */
        private static final int MOST_HALVINGS = 16;

        private final int room;
        private final boolean[] highs;
        private final int[] minutes;
        private final int[] heights;
        private int size = 0;

        Port(int wanted) {
            room = Math.max(wanted, 1);
            highs = new boolean[room];
            minutes = new int[room];
            heights = new int[room];
        }

        static boolean isHeight(int height) {
            return height >= LEAST_HEIGHT && height <= MOST_HEIGHT;
        }

        int turnCount() {
            return size;
        }

        boolean isHigh(int i) {
            return i >= 0 && i < size && i < room && highs[i];
        }

        int minuteOf(int i) {
            return i >= 0 && i < size && i < room ? minutes[i] : 0;
        }

        int heightOf(int i) {
            return i >= 0 && i < size && i < room ? heights[i] : 0;
        }

        int firstMinute() {
            return minuteOf(0);
        }

        int lastMinute() {
            return minuteOf(size - 1);
        }

        boolean hasMinute(int t) {
            return size > 0 && t >= firstMinute() && t <= lastMinute();
        }

        void clear() {
            size = 0;
        }

        void copyFrom(Port other) {
            size = 0;
            for (int i = 0; i < other.turnCount(); i++) {
                add(other.isHigh(i), other.minuteOf(i), other.heightOf(i));
            }
        }

        void add(boolean isHigh, int minute, int height) {
            if (size >= 0 && size < room) {
                highs[size] = isHigh;
                minutes[size] = minute;
                heights[size] = height;
                size++;
            }
        }

        int minuteOfNext(int time) {
            int ofDay = time / 100 * 60 + time % 100;
            if (size == 0) {
                return ofDay;
            }
            int after = lastMinute() + 1;
            return after + Math.floorMod(ofDay - after, DAY);
        }

        int faultOfNext(boolean isHigh, int time, int height) {
            if (time / 100 >= 24 || time % 100 >= 60) {
                return TIME_UNSOUND;
            }
            if (size > 0 && isHigh == isHigh(size - 1)) {
                return ORDER_UNSOUND;
            }
            int found = faultOfHeight(isHigh, height);
            return found != 0 ? found : faultOfMinute(minuteOfNext(time));
        }

        int faultOfHeight(boolean isHigh, int height) {
            if (!isHeight(height)) {
                return HEIGHT_UNSOUND;
            }
            if (size == 0) {
                return 0;
            }
            int ahead = heightOf(size - 1);
            boolean changes = isHigh ? height > ahead : height < ahead;
            return changes ? 0 : CHANGE_UNSOUND;
        }

        int faultOfMinute(int minute) {
            if (size == 0) {
                return 0;
            }
            int gap = minute - lastMinute();
            return gap >= LEAST_GAP && gap <= MOST_GAP ? 0 : GAP_UNSOUND;
        }

        boolean isWrittenAs(Port other) {
            if (size != other.turnCount()) {
                return false;
            }
            for (int i = 0; i < size; i++) {
                boolean sameTime = minuteOf(i) % DAY == other.minuteOf(i) % DAY;
                if (!sameTime || isHigh(i) != other.isHigh(i) || heightOf(i) != other.heightOf(i)) {
                    return false;
                }
            }
            return true;
        }

        int wholeHeightAt(int t) {
            int i = size - 1;
            while (i > 0 && minuteOf(i) > t) {
                i--;
            }
            int gap = minuteOf(i + 1) - minuteOf(i);
            if (i + 1 >= size || gap <= 0) {
                return heightOf(i);
            }
            return Math.floorDiv(excess(i, t, 0), 12 * gap);
        }

        /** Collects the minutes at which the height stands on one side of h. */
        void collect(int side, int h, Spans into) {
            into.clear();
            for (int i = 0; i < size; i++) {
                int from = minuteOf(i);
                int behind = i + 1 < size ? minuteOf(i + 1) : from + 1;
                int change = firstChange(i, side, h, behind);
                if (isOn(side, heightOf(i) - h)) {
                    into.add(from, change - 1);
                } else {
                    into.add(change, behind - 1);
                }
            }
        }

        /** Between two turns the water only rises or only falls, so one halving search finds the change. */
        private int firstChange(int i, int side, int h, int behind) {
            boolean holdsFirst = isOn(side, heightOf(i) - h);
            int before = minuteOf(i);
            int changed = behind;
            for (int step = 0; step < MOST_HALVINGS && changed - before > 1; step++) {
                int middle = before + (changed - before) / 2;
                if (isOn(side, excess(i, middle, h)) == holdsFirst) {
                    before = middle;
                } else {
                    changed = middle;
                }
            }
            return changed;
        }

        private static boolean isOn(int side, int excess) {
            if (side == AT_LEAST) {
                return excess >= 0;
            }
            return side == BELOW ? excess < 0 : excess <= 0;
        }

        /**
         * How far the height at t, which is from the i-th turn on and ahead of the next one, is above h. 12 times
         * the gap between the two stands for one of height, so that nothing is rounded.
         */
        private int excess(int i, int t, int h) {
            if (i < 0 || i + 1 >= size || i + 1 >= room) {
                return 0;
            }
            int gap = minutes[i + 1] - minutes[i];
            if (gap <= 0) {
                return 0;
            }
            int sixths = 6 * (t - minutes[i]);
            int part = sixths / gap;
            if (part < 0 || part >= TWELFTHS_OVER.length || part >= TWELFTHS_NEXT.length) {
                return 0;
            }
            int over = TWELFTHS_OVER[part] * gap + TWELFTHS_NEXT[part] * (sixths % gap);
            return (heights[i] - h) * 12 * gap + (heights[i + 1] - heights[i]) * over;
        }
    }

    /** A sill, gate or bridge of a port. */
    private static final class Sill {
        static final int BAR = 0;
        static final int GATE = 1;
        static final int FLAP = 2;
        static final int BRIDGE = 3;

        private static final int UNSOUND = 8;
        private static final int MOST_BRIDGE = 9999;
        private static final int MOST_MINUTES = 600;

        private final Port home;
        private int kind = BAR;
        private int level = 0;
        private int one = 0;
        private int two = 0;

        Sill(Port base) {
            home = base;
        }

        Port home() {
            return home;
        }

        int kind() {
            return kind;
        }

        int level() {
            return level;
        }

        int one() {
            return one;
        }

        int two() {
            return two;
        }

        boolean hasTwoNumbers() {
            return kind == GATE || kind == FLAP;
        }

        void readFrom(Tape tape) {
            if (tape.takeWord("bar")) {
                kind = BAR;
            } else if (tape.takeWord("gate")) {
                kind = GATE;
            } else if (tape.takeWord("flap")) {
                kind = FLAP;
            } else {
                tape.wantWord("bridge");
                kind = BRIDGE;
            }
            level = tape.wantSize();
            if (hasTwoNumbers()) {
                one = tape.wantNumber();
                two = tape.wantNumber();
            }
        }

        int findFault() {
            boolean sound = kind == BRIDGE ? level >= 0 && level <= MOST_BRIDGE : Port.isHeight(level);
            if (hasTwoNumbers() && one > MOST_MINUTES) {
                sound = false;
            }
            if (kind == GATE && two > MOST_MINUTES) {
                sound = false;
            }
            return sound ? 0 : UNSOUND;
        }
    }

    private static final class Ship {
        private static final int UNSOUND = 9;
        private static final int MOST_DRAUGHT = 1500;
        private static final int MOST_PACE = 60;

        private int draught = 0;
        private int mast = 0;
        private int pace = 0;

        int draught() {
            return draught;
        }

        int mast() {
            return mast;
        }

        int pace() {
            return pace;
        }

        void readFrom(Tape tape) {
            draught = tape.wantNumber();
            mast = tape.wantNumber();
            pace = tape.wantNumber();
        }

        int findFault() {
            boolean sound = draught >= 1 && draught <= MOST_DRAUGHT && pace >= 1 && pace <= MOST_PACE;
            return sound ? 0 : UNSOUND;
        }

        int minutesFor(int tenthsOfMiles) {
            return (tenthsOfMiles * pace + 9) / 10;
        }
    }

    private static final class Route {
        static final int MOST_STOPS = 8;
        /** 120 bytes hold 30 stops at most: each but the first is four bytes or more with its way. */
        static final int ROOM_ON_TAPE = 32;
        static final int MAY_WAIT = 0;
        static final int GOES_ON = 1;
        static final int WAITS_AFLOAT = 2;

        private static final int UNSOUND = 10;

        private final int room;
        private final Sill[] sillRow;
        private final int[] numbers;
        private final int[] kinds;
        private final int[] levels;
        private final int[] miles;
        private int size = 0;

        Route(int wanted) {
            room = Math.max(wanted, 1);
            sillRow = new Sill[room];
            numbers = new int[room];
            kinds = new int[room];
            levels = new int[room];
            miles = new int[room];
        }

        int stopCount() {
            return size;
        }

        Sill sillOf(int i) {
            return isStop(i) ? sillRow[i] : null;
        }

        int sillNumberOf(int i) {
            return isStop(i) ? numbers[i] : 0;
        }

        int kindOf(int i) {
            return isStop(i) ? kinds[i] : MAY_WAIT;
        }

        int levelOf(int i) {
            return isStop(i) ? levels[i] : 0;
        }

        /** Tenths of miles from the stop ahead; none to the first one, so that its leg comes out as 0. */
        int milesTo(int i) {
            return isStop(i) ? miles[i] : 0;
        }

        void setSill(int i, Sill sill) {
            if (isStop(i)) {
                sillRow[i] = sill;
            }
        }

        void copyFrom(Route other) {
            size = 0;
            for (int i = 0; i < other.stopCount(); i++) {
                add(other.milesTo(i), other.sillNumberOf(i), other.kindOf(i), other.levelOf(i));
            }
        }

        void readFrom(Tape tape) {
            size = 0;
            readStop(tape, 0);
            for (int stops = 1; stops < room && tape.takeMark('/'); stops++) {
                readStop(tape, tape.wantNumber());
            }
        }

        int findFault(int sillCount) {
            for (int i = 0; i < size; i++) {
                if (sillNumberOf(i) >= sillCount || !Port.isHeight(levelOf(i))) {
                    return UNSOUND;
                }
            }
            return 0;
        }

        private void readStop(Tape tape, int milesBefore) {
            int number = tape.wantNumber();
            int kind = MAY_WAIT;
            int level = 0;
            if (tape.takeMark('!')) {
                kind = GOES_ON;
            } else if (tape.takeMark('~')) {
                kind = WAITS_AFLOAT;
                level = tape.wantSize();
            }
            add(milesBefore, number, kind, level);
        }

        private void add(int milesBefore, int number, int kind, int level) {
            if (size >= 0 && size < room) {
                miles[size] = milesBefore;
                numbers[size] = number;
                kinds[size] = kind;
                levels[size] = level;
                size++;
            }
        }

        private boolean isStop(int i) {
            return i >= 0 && i < size && i < room;
        }
    }

    /** A set of whole numbers as rising spans, of which no two touch. */
    private static final class Spans {
        static final int NONE = -2147483648;

        private final int room;
        private final int[] firsts;
        private final int[] lasts;
        private int size = 0;

        Spans(int wanted) {
            room = Math.max(wanted, 1);
            firsts = new int[room];
            lasts = new int[room];
        }

        int size() {
            return size;
        }

        int firstOf(int i) {
            return i >= 0 && i < size && i < room ? firsts[i] : NONE;
        }

        int lastOf(int i) {
            return i >= 0 && i < size && i < room ? lasts[i] : NONE;
        }

        void clear() {
            size = 0;
        }

        /** Spans come by rising first numbers; one that touches the span ahead is joined to it. */
        void add(int first, int last) {
            if (first > last) {
                return;
            }
            if (size > 0 && size <= room && first <= lasts[size - 1] + 1) {
                lasts[size - 1] = Math.max(lasts[size - 1], last);
            } else if (size >= 0 && size < room) {
                firsts[size] = first;
                lasts[size] = last;
                size++;
            }
        }

        void copyShifted(Spans other, int by) {
            size = 0;
            for (int i = 0; i < other.size(); i++) {
                add(other.firstOf(i) + by, other.lastOf(i) + by);
            }
        }

        void intersect(Spans one, Spans other) {
            size = 0;
            int i = 0;
            int j = 0;
            while (i < one.size() && j < other.size()) {
                add(Math.max(one.firstOf(i), other.firstOf(j)), Math.min(one.lastOf(i), other.lastOf(j)));
                if (one.lastOf(i) < other.lastOf(j)) {
                    i++;
                } else {
                    j++;
                }
            }
        }

        void unite(Spans one, Spans other) {
            size = 0;
            int i = 0;
            int j = 0;
            while (i < one.size() || j < other.size()) {
                if (j >= other.size() || (i < one.size() && one.firstOf(i) <= other.firstOf(j))) {
                    add(one.firstOf(i), one.lastOf(i));
                    i++;
                } else {
                    add(other.firstOf(j), other.lastOf(j));
                    j++;
                }
            }
        }

        int earliestFrom(int limit) {
            for (int i = 0; i < size; i++) {
                if (lastOf(i) >= limit) {
                    return Math.max(firstOf(i), limit);
                }
            }
            return NONE;
        }

        int latestUpTo(int limit) {
            for (int i = size - 1; i >= 0; i--) {
                if (firstOf(i) <= limit) {
                    return Math.min(lastOf(i), limit);
                }
            }
            return NONE;
        }

        boolean has(int number) {
            return size > 0 && earliestFrom(number) == number;
        }

        int countAll() {
            int all = 0;
            for (int i = 0; i < size; i++) {
                all += lastOf(i) - firstOf(i) + 1;
            }
            return all;
        }
    }

    /** Finds the good minutes of a sill for a ship. */
    private static final class Windows {
        /** A port has 8 high waters at most, so a gate's hours and its waters meet in 15 spans at most. */
        static final int ROOM = 24;

        private final Spans found = new Spans(ROOM);
        private final Spans wet = new Spans(ROOM);
        private final Spans tended = new Spans(ROOM);
        private boolean always = false;

        Spans found() {
            return found;
        }

        boolean areAlways() {
            return always;
        }

        void find(Sill sill, Ship ship) {
            found.clear();
            always = false;
            Port home = sill.home();
            if (home == null) {
                return;
            }
            switch (sill.kind()) {
                case Sill.BAR:
                    home.collect(Port.AT_LEAST, sill.level() + ship.draught(), found);
                    break;
                case Sill.GATE:
                    findAtGate(home, sill, ship);
                    break;
                case Sill.FLAP:
                    findAtFlap(home, sill, ship);
                    break;
                default:
                    home.collect(Port.AT_MOST, sill.level() - ship.mast(), found);
                    break;
            }
            always = found.countAll() == home.lastMinute() - home.firstMinute() + 1;
        }

        private void findAtGate(Port home, Sill sill, Ship ship) {
            home.collect(Port.AT_LEAST, sill.level() + ship.draught(), wet);
            tended.clear();
            for (int i = 0; i < home.turnCount(); i++) {
                if (home.isHigh(i)) {
                    tended.add(home.minuteOf(i) - sill.one(), home.minuteOf(i) + sill.two());
                }
            }
            found.intersect(wet, tended);
        }

        private void findAtFlap(Port home, Sill sill, Ship ship) {
            if (ship.draught() > sill.two()) {
                return;
            }
            home.collect(Port.AT_LEAST, sill.level(), wet);
            for (int i = 0; i < wet.size(); i++) {
                found.add(wet.firstOf(i) + sill.one(), wet.lastOf(i));
            }
        }
    }

    /** Finds when a ship passes the stops of a route, and when it must start. */
    private static final class Planner {
        /** Each stop has 15 windows at most and adds fewer spans than that: 8 stops come to 113 at most. */
        private static final int ROOM = 128;
        /** Beyond every minute of a port and every number at which a ship can arrive. */
        private static final int FAR = 1000000;

        private final Windows windows = new Windows();
        private final Spans deep = new Spans(Windows.ROOM);
        private final Spans stays = new Spans(Windows.ROOM);
        private final Spans arrivals = new Spans(ROOM);
        private final Spans options = new Spans(ROOM);
        private final Spans[] reached = new Spans[Route.MOST_STOPS];
        private final int[] passes = new int[Route.MOST_STOPS];

        Planner() {
            for (int i = 0; i < Route.MOST_STOPS; i++) {
                reached[i] = new Spans(ROOM);
            }
        }

        int passOf(int i) {
            return i >= 0 && i < Route.MOST_STOPS ? passes[i] : NOWHERE;
        }

        int waitedFrom(int t, Route route, Ship ship) {
            int waited = passOf(route.stopCount() - 1) - t;
            for (int i = 1; i < route.stopCount(); i++) {
                waited -= ship.minutesFor(route.milesTo(i));
            }
            return waited;
        }

        /**
         * Finds the plan from t on; false if there is no way. At each stop all minutes are found at which the
         * ship can pass it; then, from the earliest at the last stop back, each pass is the latest from which
         * the next one can still be reached. No pass between that one and the next arrival can do it, and
         * where a ship may wait from an earlier arrival, it may from a later one.
         */
        boolean plan(Route route, Ship ship, int t) {
            arrivals.clear();
            arrivals.add(t, t);
            int stops = Math.min(route.stopCount(), Route.MOST_STOPS);
            for (int i = 0; i < stops; i++) {
                Sill sill = route.sillOf(i);
                if (sill == null) {
                    return false;
                }
                allowLater(route, i, sill, ship);
                windows.find(sill, ship);
                reached[i].intersect(options, windows.found());
                if (reached[i].size() == 0) {
                    return false;
                }
                arrivals.copyShifted(reached[i], ship.minutesFor(route.milesTo(i + 1)));
            }
            choosePasses(route, ship, stops);
            return true;
        }

        /** The latest number to start from to have passed the last stop by t; NONE if there is none. */
        int latestStart(Route route, Ship ship, int t) {
            options.clear();
            options.add(0, t);
            int stops = Math.min(route.stopCount(), Route.MOST_STOPS);
            int latest = Spans.NONE;
            for (int i = stops - 1; i >= 0; i--) {
                Sill sill = route.sillOf(i);
                if (sill == null) {
                    return Spans.NONE;
                }
                windows.find(sill, ship);
                reached[i].intersect(options, windows.found());
                latest = reached[i].latestUpTo(FAR);
                if (latest == Spans.NONE) {
                    return Spans.NONE;
                }
                allowEarlier(route, i, sill, ship);
                options.copyShifted(arrivals, -ship.minutesFor(route.milesTo(i)));
            }
            return latest;
        }

        private void choosePasses(Route route, Ship ship, int stops) {
            int limit = FAR;
            for (int i = stops - 1; i >= 0; i--) {
                passes[i] = i == stops - 1 ? reached[i].firstOf(0) : reached[i].latestUpTo(limit);
                limit = passes[i] - ship.minutesFor(route.milesTo(i));
            }
        }

        /** From the arrivals at a stop to the options: all numbers at which its kind lets the ship go on. */
        private void allowLater(Route route, int i, Sill sill, Ship ship) {
            int kind = route.kindOf(i);
            if (kind == Route.GOES_ON) {
                options.copyShifted(arrivals, 0);
            } else if (kind == Route.MAY_WAIT) {
                options.clear();
                options.add(arrivals.firstOf(0), FAR);
            } else {
                findDeep(sill, route.levelOf(i) + ship.draught());
                stays.clear();
                for (int k = 0; k < deep.size(); k++) {
                    int earliest = arrivals.earliestFrom(deep.firstOf(k));
                    if (earliest != Spans.NONE) {
                        stays.add(earliest, deep.lastOf(k));
                    }
                }
                options.unite(arrivals, stays);
            }
        }

        /** The other way round: from the minutes of passing to all arrivals that lead to one of them. */
        private void allowEarlier(Route route, int i, Sill sill, Ship ship) {
            int kind = route.kindOf(i);
            Spans passing = reached[i];
            if (kind == Route.GOES_ON) {
                arrivals.copyShifted(passing, 0);
            } else if (kind == Route.MAY_WAIT) {
                arrivals.clear();
                arrivals.add(-FAR, passing.latestUpTo(FAR));
            } else {
                findDeep(sill, route.levelOf(i) + ship.draught());
                stays.clear();
                for (int k = 0; k < deep.size(); k++) {
                    int latest = passing.latestUpTo(deep.lastOf(k));
                    if (latest != Spans.NONE) {
                        stays.add(deep.firstOf(k), latest);
                    }
                }
                arrivals.unite(passing, stays);
            }
        }

        private void findDeep(Sill sill, int h) {
            deep.clear();
            Port home = sill.home();
            if (home != null) {
                home.collect(Port.AT_LEAST, h, deep);
            }
        }
    }

    /** What is written out, letter by letter. */
    private static final class Page {
        /** The longest is a note of 15 windows of 15 letters each. */
        private static final int ROOM = 256;

        private final char[] letters = new char[ROOM];
        private int size = 0;

        int size() {
            return size;
        }

        int letterAt(int k) {
            return k >= 0 && k < size && k < ROOM ? letters[k] : 0;
        }

        void writePort(Port port) {
            size = 0;
            if (port == null) {
                return;
            }
            for (int i = 0; i < port.turnCount(); i++) {
                if (i > 0) {
                    put(',');
                }
                putText(port.isHigh(i) ? "hw" : "lw");
                putTime(port.minuteOf(i));
                put(' ');
                putNumber(port.heightOf(i));
            }
        }

        void writeSill(Sill sill) {
            size = 0;
            if (sill == null) {
                return;
            }
            putText(wordOf(sill.kind()));
            put(' ');
            putNumber(sill.level());
            if (sill.hasTwoNumbers()) {
                put(' ');
                putNumber(sill.one());
                put(' ');
                putNumber(sill.two());
            }
        }

        void writeShip(Ship ship) {
            size = 0;
            if (ship == null) {
                return;
            }
            putNumber(ship.draught());
            put(' ');
            putNumber(ship.mast());
            put(' ');
            putNumber(ship.pace());
        }

        void writeRoute(Route route) {
            size = 0;
            if (route == null) {
                return;
            }
            for (int i = 0; i < route.stopCount(); i++) {
                if (i > 0) {
                    putText(" /");
                    putNumber(route.milesTo(i));
                    put(' ');
                }
                putNumber(route.sillNumberOf(i));
                if (route.kindOf(i) == Route.GOES_ON) {
                    put('!');
                } else if (route.kindOf(i) == Route.WAITS_AFLOAT) {
                    put('~');
                    putNumber(route.levelOf(i));
                }
            }
        }

        void writeNote(Spans found, boolean always) {
            size = 0;
            if (found.size() == 0) {
                putText("shut");
                return;
            }
            if (always) {
                putText("open");
                return;
            }
            for (int i = 0; i < found.size(); i++) {
                if (i > 0) {
                    putText(", ");
                }
                putDayAndTime(found.firstOf(i));
                if (found.lastOf(i) != found.firstOf(i)) {
                    put('-');
                    putDayAndTime(found.lastOf(i));
                }
            }
        }

        private static String wordOf(int kind) {
            switch (kind) {
                case Sill.BAR:
                    return "bar";
                case Sill.GATE:
                    return "gate";
                case Sill.FLAP:
                    return "flap";
                default:
                    return "bridge";
            }
        }

        private void putDayAndTime(int minute) {
            putTime(minute);
            if (minute / Port.DAY > 0) {
                put('+');
                putNumber(minute / Port.DAY);
            }
        }

        private void putTime(int minute) {
            int hour = minute / 60 % 24;
            int rest = minute % 60;
            putDigit(hour / 10);
            putDigit(hour % 10);
            putDigit(rest / 10);
            putDigit(rest % 10);
        }

        /** No number that is written has more than four digits. */
        private void putNumber(int number) {
            if (number < 0) {
                put('-');
            }
            int plain = Math.abs(number);
            for (int unit = 1000; unit > 0; unit /= 10) {
                if (plain >= unit || unit == 1) {
                    putDigit(plain / unit % 10);
                }
            }
        }

        private void putDigit(int digit) {
            put((char) ('0' + digit));
        }

        private void putText(String text) {
            for (int i = 0; i < text.length(); i++) {
                put(text.charAt(i));
            }
        }

        private void put(char letter) {
            if (size >= 0 && size < ROOM) {
                letters[size] = letter;
                size++;
            }
        }
    }
}
