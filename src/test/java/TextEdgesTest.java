/**
 * The boundary cases of 1 TEXTS, of the tape (promises 2 and 3) and of place() (promise 10), each sentence of the
 * document by itself.
 */
public final class TextEdgesTest {
    private static final Checks CHECKS = new Checks();
    /** One right text of each kind, for harbour(). */
    private static final String[] RIGHT = {"plw0000 0,hw0600 9", "lhw1800 5", "dhw+1 2+3 4+3,lw+1 2-3 4-3", "sbar 5", "sgate 5 6 7",
        "sflap 5 6 7", "sbridge 5", "h1 2 3", "r0", "r0!", "r0~5", "r0/1 0"};

    private static void wrongAt(char kind, String text, int place) {
        Asked x = Checks.harbour();
        CHECKS.refused(kind + " '" + text + "'", x, Checks.read(x, kind, 0, text), 2);
        CHECKS.due("place() of " + kind + " '" + text + "'", x.place(), place);
    }

    /** A text that is wrong where ^ stands, which is no part of it. */
    private static void wrong(char kind, String marked) {
        wrongAt(kind, marked.replace("^", ""), marked.indexOf('^'));
    }

    private static void right(char kind, String text) {
        Asked x = Checks.harbour();
        CHECKS.taken(kind + " '" + text + "'", x, Checks.read(x, kind, 0, text), 1);
        CHECKS.due("place() of " + kind + " '" + text + "'", x.place(), SillHours.BAD);
    }

    private static String blanks(int n) {
        return " ".repeat(n);
    }

    private static boolean isDigit(int sign) {
        return sign >= '0' && sign <= '9';
    }

    private static int digitsFrom(String text, int at) {
        int digits = 0;
        while (at + digits < text.length() && isDigit(text.charAt(at + digits))) {
            digits++;
        }
        return digits;
    }

    private static void longestTape() {
        CHECKS.sentence("The TAPE has up to 120 bytes.");
        right('s', "bar" + blanks(116) + "5");
        right('s', "bar 5" + blanks(115));
        right('s', blanks(115) + "bar 5");
        wrongAt('s', "bar 5" + blanks(114) + "!", 119);
        wrongAt('s', "bar" + blanks(117), 120);
        wrongAt('s', blanks(120), 120);
    }

    /** Every byte between, behind and ahead of the pieces of a text: the edges of a .. z and of the digits, 0 and 255. */
    private static void everyByte() {
        for (int sign = 0; sign < 256; sign++) {
            boolean isLetter = sign >= 'a' && sign <= 'z';
            boolean isMark = "+-,/!~".indexOf(sign) >= 0;
            CHECKS.sentence(sign == ' ' ? "BLANKS are 32." : isLetter ? "WORDS: rows of a .. z" : isDigit(sign) ? "NUMBERS: rows of digits"
                : isMark ? "MARKS: each of the bytes + - , / ! ~" : "A text is WRONG at a byte that begins none.");
            everyByteAround((char) sign, isLetter);
            everyByteBetween((char) sign);
        }
    }

    private static void everyByteAround(char sign, boolean isLetter) {
        if (sign == ' ') {
            right('s', sign + "bar 5");
        } else {
            wrongAt('s', sign + "bar 5", 0);
        }
        if (sign == ' ' || sign == '-' || isDigit(sign)) {
            right('s', "bar" + sign + "5");
        } else {
            wrongAt('s', "bar" + sign + "5", isLetter ? 0 : 3);
        }
        if (sign == ' ' || isDigit(sign)) {
            right('s', "bar 5" + sign);
        } else {
            wrongAt('s', "bar 5" + sign, 5);
        }
    }

    private static void everyByteBetween(char sign) {
        if (sign == ' ') {
            right('h', "1" + sign + "2 3");
        } else {
            wrongAt('h', "1" + sign + "2 3", isDigit(sign) ? 5 : 1);
        }
        if (sign == ',') {
            right('p', "lw0 0" + sign + "hw600 9");
        } else {
            wrongAt('p', "lw0 0" + sign + "hw600 9", sign == ' ' || isDigit(sign) ? 6 : 5);
        }
    }

    private static void fourDigits() {
        CHECKS.sentence("NUMBERS: rows of digits, 4 at most");
        right('p', "lw0000 0000,hw0600 0009");
        right('l', "hw1800 0005");
        right('d', "hw+0001 0002+0003 0004+0003,lw-0000 0002-0003 0004-0003");
        right('s', "bridge 9999");
        right('s', "flap 0005 0006 9999");
        right('h', "0001 9999 0003");
        right('r', "0000/9999 0000~0005");
        CHECKS.sentence("a NUMBER of more digits can't stand anywhere");
        for (String told : RIGHT) {
            char kind = told.charAt(0);
            String text = told.substring(1);
            for (int at = 0; at < text.length(); at++) {
                int digits = digitsFrom(text, at);
                if (digits > 0 && (at == 0 || !isDigit(text.charAt(at - 1)))) {
                    wrongAt(kind, text.substring(0, at) + "0".repeat(5 - digits) + text.substring(at), at);
                }
            }
            wrongAt(kind, text + " 12345", text.length() + 1);
            wrongAt(kind, "12345 " + text, 0);
        }
        wrong('h', "^123456789 2 3");
        wrong('p', "hw ^00000 1");
    }

    private static void marksByThemselves() {
        CHECKS.sentence("MARKS: each of the bytes + - , / ! ~ by itself");
        wrong('d', "hw+^+1 2+3 4+3,lw+1 2-3 4-3");
        wrong('d', "hw-^-1 2+3 4+3,lw+1 2-3 4-3");
        wrong('d', "hw+^-1 2+3 4+3,lw+1 2-3 4-3");
        wrong('d', "hw+1 2+3 4+3,^,lw+1 2-3 4-3");
        wrong('s', "bar -^-5");
        wrong('p', "lw0000 0,^,hw0600 9");
        wrong('r', "0!^!");
        wrong('r', "0~^~5");
        wrong('r', "0/^/1 0");
        wrong('r', "0!^~5");
        wrong('r', "0~5^!");
    }

    private static void asLongAsTheyCanBe() {
        CHECKS.sentence("WORDS and NUMBERS are each as long as they can be");
        wrong('p', "^hwlw0000 0");
        wrong('p', "^hwa0000 0");
        wrong('p', "^hwz0000 0");
        wrong('p', "^hwhw0000 0");
        wrong('p', "lw0 0,^hwlw600 9");
        wrong('s', "^barbar 5");
        wrong('s', "^bara 5");
        wrong('s', "^barz 5");
        wrong('s', "^bargate 5");
        wrong('s', "^gatez 5 6 7");
        wrong('s', "^flapz 5 6 7");
        wrong('s', "^bridgez 5");
        wrong('d', "^hwz+1 2+3 4+3,lw+1 2-3 4-3");
        wrong('d', "hw+1 2+3 4+3,^lwz-1 2-3 4-3");
        // 12345 is no 1234 with a 5 behind it
        wrong('h', "^12345");
        wrong('h', "^12345 6");
        wrong('h', "1 ^23456");
        wrong('p', "lw^00000");
        wrong('h', "123^");
    }

    private static void blanksAnywhere() {
        CHECKS.sentence("there may be any BLANKS ahead of and behind each PIECE");
        right('p', "   lw  0000   - 7  ,   hw   0600   9   ");
        right('l', "  hw  1800  5  ");
        right('d', " hw + 1  2 + 3  4 + 3 , lw - 0  - 2 - 3  - 4 - 3 ");
        right('s', "  bar  -  5  ");
        right('s', "  gate  -  5  6  7  ");
        right('s', "  flap  -  5  6  7  ");
        right('s', "  bridge  5  ");
        right('h', "  1  2  3  ");
        right('r', "  0  !  /  1  0  ~  -  5  /  2  0  ");
        right('h', blanks(36) + "1" + blanks(40) + "2" + blanks(40) + "3 ");
        CHECKS.sentence("and none are wanted");
        right('p', "lw0000-7,hw0600-5,lw1200-7");
        right('l', "hw1800 5,lw0000-6");
        right('d', "hw+1-2+3-4+3,lw-0-2-3-4-3");
        right('s', "bar5");
        right('s', "bar-5");
        right('s', "gate-5 6 7");
        right('s', "flap5 6 7");
        right('s', "bridge5");
        right('r', "0!/1 0~-5/2 0");
    }

    private static void sizesAndSteps() {
        CHECKS.sentence("A SIZE is n, or - n");
        right('s', "bar 5");
        right('s', "bar -5");
        right('s', "bar -0");
        wrong('s', "bar ^+5");
        wrong('s', "bar -^+5");
        wrong('s', "bar -^bar");
        wrong('s', "bar ^");
        wrong('s', "bar -^");
        wrong('s', "bridge ^+5");
        wrong('s', "gate ^+5 6 7");
        wrong('s', "flap ^+5 6 7");
        wrong('p', "lw0000 ^+0");
        wrong('r', "0~^+5");
        wrong('d', "hw+1^+2+3 4+3,lw+1 2-3 4-3");
        wrong('d', "hw+1 2+3^+4+3,lw+1 2-3 4-3");
        wrong('d', "hw+1 2+3 4+3,lw+1^+2-3 4-3");
        wrong('d', "hw+1 2+3 4+3,lw+1 2-3^+4-3");
        CHECKS.sentence("a STEP is + n, or - n");
        right('d', "hw-1 2-3 4-3,lw+1 2+3 4+3");
        wrong('d', "hw^1 2+3 4+3,lw+1 2-3 4-3");
        wrong('d', "hw+1 2 ^3 4+3,lw+1 2-3 4-3");
        wrong('d', "hw+1 2+3 4 ^3,lw+1 2-3 4-3");
        wrong('d', "hw+1 2+3 4+3,lw ^1 2-3 4-3");
        wrong('d', "hw+1 2+3 4+3,lw+1 2 ^3 4-3");
        wrong('d', "hw+1 2+3 4+3,lw+1 2-3 4 ^3");
        wrong('d', "hw+^hw");
        wrong('d', "hw-^hw");
        CHECKS.sentence("(n, m, k, a, b, c, d are NUMBERS.)");
        wrong('p', "lw^-1 2");
        wrong('p', "lw^+1 2");
        wrong('s', "gate 5 ^-6 7");
        wrong('s', "gate 5 6 ^-7");
        wrong('s', "flap 5 ^-6 7");
        wrong('s', "flap 5 6 ^-7");
        wrong('h', "^-1 2 3");
        wrong('h', "1 ^-2 3");
        wrong('h', "1 2 ^-3");
        wrong('h', "1 ^+2 3");
        wrong('r', "^-0");
        wrong('r', "0/^-1 0");
        wrong('r', "0/1 ^-0");
        wrong('r', "0/^+1 0");
    }

    private static void tables() {
        CHECKS.sentence("A TABLE is one or more TURNS, with , between each two, a TURN: hw n SIZE, or lw n SIZE.");
        right('p', "hw0 0");
        right('p', "lw0 0");
        right('p', "lw0000 0,hw0600 9,lw1200 0");
        wrong('p', "^");
        wrong('p', "^,");
        wrong('p', "^,hw0 0");
        wrong('p', "lw0000 0,^");
        wrong('p', "lw0000 0 ^hw0600 9");
        wrong('p', "lw0000 0^/hw0600 9");
        wrong('p', "lw0000 0,hw0600 9,^");
        wrong('p', "lw0000 0,hw0600 9 ^lw1200 0");
        wrong('p', "^0000 0");
        wrong('p', "lw0000 0,^0600 9");
        wrong('p', "lw ^lw 0");
        wrong('p', "lw0000 ^lw");
        wrong('l', "^");
        wrong('l', "hw1800 5,^");
        wrong('l', "hw1800 5 ^lw0000 4");
    }

    private static void differences() {
        CHECKS.sentence("DIFFERENCES are hw SHIFT , lw SHIFT; a SHIFT is STEP SIZE STEP SIZE STEP.");
        wrong('d', "^lw+1 2-3 4-3,hw+1 2+3 4+3");
        wrong('d', "hw+1 2+3 4+3,^hw+1 2+3 4+3");
        wrong('d', "hw+1 2+3 4+3 ^lw+1 2-3 4-3");
        wrong('d', "hw+1 2+3 4+3^/lw+1 2-3 4-3");
        wrong('d', "hw+1 2+3 4+3^+4,lw+1 2-3 4-3");
        wrong('d', "hw+1 2+3^,lw+1 2-3 4-3");
        wrong('d', "hw^,lw");
        wrong('d', "^+1 2+3 4+3,lw+1 2-3 4-3");
        wrong('d', "hw+1 2+3 4+3,^-1 2-3 4-3");
        wrong('d', "hw+1 2+3 4+3,lw+1 2-3^,");
    }

    private static void sillsShipsAndRoutes() {
        CHECKS.sentence("A SILL is bar SIZE, or gate SIZE b a, or flap SIZE c d, or bridge SIZE.");
        wrong('s', "bar 5 ^6");
        wrong('s', "bridge 5 ^6");
        wrong('s', "gate 5^");
        wrong('s', "gate 5 6^");
        wrong('s', "gate 5 6 7 ^8");
        wrong('s', "gate 5^,6 7");
        wrong('s', "flap 5^");
        wrong('s', "flap 5 6^");
        wrong('s', "flap 5 6 7 ^8");
        wrong('s', "^5");
        wrong('s', "bar ^bar 5");
        CHECKS.sentence("A SHIP is n m k.");
        wrong('h', "1^");
        wrong('h', "1 2^");
        wrong('h', "1 2 3 ^4");
        wrong('h', "1^,2 3");
        wrong('h', "^bar 1 2 3");
        CHECKS.sentence("A ROUTE is a STOP, behind it any number of times (also none) / n STOP; a STOP is n, or n !, or n ~ SIZE.");
        right('r', "0");
        right('r', "0!");
        right('r', "0~5");
        right('r', "0~-5");
        right('r', "0/1 0/2 0!/3 0~5/4 0/5 0/6 0/7 0");
        wrong('r', "^");
        wrong('r', "^/1 0");
        wrong('r', "^!");
        wrong('r', "^!0");
        wrong('r', "^~5");
        wrong('r', "0 ^0");
        wrong('r', "0/1^/0");
        wrong('r', "0/1^!");
        wrong('r', "0/1^~5");
        wrong('r', "0/1 0 ^0");
        wrong('r', "0~5 ^6");
        wrong('r', "0^,0");
    }

    private static void firstOfSeveral() {
        CHECKS.sentence("A text is WRONG at the first byte of the first PIECE that can't stand there");
        wrong('p', "lw ^! 12345 z . ,");
        wrong('p', "lw0000 ^12345 ! z .");
        wrong('p', "^zzz 12345 !");
        wrong('p', "lw0000 0,^. zzz");
        wrong('p', "^. hw");
        wrong('s', "gate 5 ^zz 12345");
        wrong('s', "   ^zz 12345");
        wrong('r', "0/1 0/2 0/3 ^bridge/4 12345");
        wrong('h', "1 2 ^gate !");
        CHECKS.sentence("a WORD that is none of hw, lw, bar, gate, flap, bridge can't stand anywhere");
        for (String word : new String[] {"h", "w", "l", "hww", "ww", "lh", "ba", "barr", "ar", "gat", "gates", "fla", "flaps", "bridg",
            "bridges", "ridge", "a", "z", "shut", "open"}) {
            for (String told : RIGHT) {
                String text = told.substring(1);
                wrongAt(told.charAt(0), word + " " + text, 0);
                wrongAt(told.charAt(0), text + " " + word, text.length() + 1);
            }
            wrong('p', "^" + word + " 0000 0");
            wrong('p', "lw ^" + word + " 0");
            wrong('s', "^" + word + " 5");
            wrong('s', "bar ^" + word);
        }
        for (String word : new String[] {"bar", "gate", "flap", "bridge"}) {
            wrong('p', "^" + word + " 0000 0");
            wrong('p', "lw0000 0,^" + word + " 0600 9");
            wrong('d', "^" + word + "+1 2+3 4+3,lw+1 2-3 4-3");
        }
        wrong('s', "^hw 5");
        wrong('s', "^lw 5");
        wrong('s', "^HW 5");
        wrong('p', "^HW 0000 0");
        wrong('p', "^Lw 0000 0");
        wrong('p', "^lW 0000 0");
    }

    private static void somethingLacks() {
        CHECKS.sentence("or, where something lacks, at the TAPE's length");
        String[] texts = {"p", "phw", "phw 1", "phw 1 -", "phw 1 2,", "phw 1 2,lw", "phw 1 2,lw 3", "phw 1 2,lw 3 -",
            "l", "lhw", "lhw 1800", "lhw 1800 5,",
            "d", "dhw", "dhw+", "dhw+1", "dhw+1 -", "dhw+1 2", "dhw+1 2-", "dhw+1 2-3", "dhw+1 2-3 -", "dhw+1 2-3 4", "dhw+1 2-3 4-",
            "dhw+1 2-3 4-5", "dhw+1 2-3 4-5,", "dhw+1 2-3 4-5,lw", "dhw+1 2-3 4-5,lw+", "dhw+1 2-3 4-5,lw+1", "dhw+1 2-3 4-5,lw+1 2",
            "dhw+1 2-3 4-5,lw+1 2+", "dhw+1 2-3 4-5,lw+1 2+3", "dhw+1 2-3 4-5,lw+1 2+3 -", "dhw+1 2-3 4-5,lw+1 2+3 4",
            "dhw+1 2-3 4-5,lw+1 2+3 4+",
            "s", "sbar", "sbar -", "sbridge", "sbridge -", "sgate", "sgate -", "sgate 1", "sgate 1 2", "sflap", "sflap -", "sflap 1",
            "sflap 1 2", "h", "h1", "h1 2", "r", "r0~", "r0~-", "r0/", "r0/1", "r0!/", "r0!/1", "r0/1 0~", "r0/1 0/", "r0/1 0/2"};
        for (String told : texts) {
            String text = told.substring(1);
            wrongAt(told.charAt(0), text, text.length());
            wrongAt(told.charAt(0), text + " ", text.length() + 1);
            wrongAt(told.charAt(0), " " + text + "    ", text.length() + 5);
        }
    }

    private static void nothingBehind() {
        CHECKS.sentence("Behind it nothing may stand.");
        for (String told : RIGHT) {
            char kind = told.charAt(0);
            String text = told.substring(1);
            right(kind, text);
            for (String more : new String[] {"7", "hw", "lw", "bar", "+", "-", ",", "/", "!", "~", ".", "" + (char) 0, "" + (char) 255}) {
                boolean mayGoOn = more.equals(",") && (kind == 'p' || kind == 'l')
                    || kind == 'r' && (more.equals("/") || !text.matches(".*[!~].*") && (more.equals("!") || more.equals("~")));
                if (!mayGoOn) {
                    wrongAt(kind, text + " " + more, text.length() + 1);
                    wrongAt(kind, text + " " + more + " " + text, text.length() + 1);
                }
            }
        }
    }

    private static void feeding() {
        CHECKS.sentence("The twenty bytes of five ints, the highest of each first, come to the TAPE: how many it has.");
        Asked x = Checks.harbour();
        // 0~-1 23/4 567. 0!/8 90.0
        CHECKS.taken("feed", x, x.feed(0x307e2d31, 0x32332f34, 0x35363720, 0x30212f38, 0x39302030), 20);
        CHECKS.taken("route()", x, x.route(), 1);
        CHECKS.due("written", Checks.written(x, 3, 1), "0~-123 /4567 0! /890 0");
        for (int n = 20; n <= 120; n += 20) {
            CHECKS.taken("feed", x, x.feed(-1, Integer.MIN_VALUE, Integer.MAX_VALUE, 0, 0x20202020), n);
            CHECKS.taken("count(4)", x, x.count(4), n);
        }
        for (int n = 0; n < 20; n++) {
            // a byte of 255 at the n-th place, blanks elsewhere
            int[] ints = {0x20202020, 0x20202020, 0x20202020, 0x20202020, 0x20202020};
            ints[n / 4] |= 255 << 24 - n % 4 * 8;
            Asked y = Checks.harbour();
            y.feed(ints[0], ints[1], ints[2], ints[3], ints[4]);
            y.ship();
            CHECKS.due("place() of 255 at " + n, y.place(), n);
        }
        CHECKS.sentence("9: these would be more than 120.");
        CHECKS.refused("feed beyond 120", x, x.feed(0, 0, 0, 0, 0), 9);
        CHECKS.due("count(4)", x.count(4), 120);
        for (int n = 119; n > 100; n--) {
            x.end(n);
            CHECKS.refused("feed to " + (n + 20), x, x.feed(0, 0, 0, 0, 0), 9);
            CHECKS.due("count(4)", x.count(4), n);
        }
        x.end(100);
        CHECKS.taken("feed to 120", x, x.feed(0, 0, 0, 0, 0), 120);
        Asked y = Checks.harbour();
        Checks.put(y, "bar" + blanks(97) + "5");
        CHECKS.refused("feed to 121", y, y.feed(0, 0, 0, 0, 0), 9);
        CHECKS.taken("what was fed ahead stays", y, y.sill(0), 1);
    }

    private static void ending() {
        CHECKS.sentence("The TAPE keeps its first n bytes: n.");
        Asked x = Checks.harbour();
        CHECKS.taken("end(0) of none", x, x.end(0), 0);
        Checks.put(x, "bar 123");
        CHECKS.taken("end(7) of 7", x, x.end(7), 7);
        CHECKS.taken("end(5) of 7", x, x.end(5), 5);
        CHECKS.taken("count(4)", x, x.count(4), 5);
        CHECKS.taken("sill", x, x.sill(0), 1);
        CHECKS.due("written", Checks.written(x, 1, 1), "bar 1");
        Checks.put(x, "bar 12");
        x.end(5);
        CHECKS.taken("feed behind the first 5", x, x.feed(0x33342020, 0x20202020, 0x20202020, 0x20202020, 0x20202020), 25);
        CHECKS.taken("sill", x, x.sill(0), 2);
        CHECKS.due("written", Checks.written(x, 1, 2), "bar 134");
        Checks.put(x, "bar 12");
        CHECKS.taken("end(0) of 6", x, x.end(0), 0);
        CHECKS.refused("sill", x, x.sill(0), 2);
        CHECKS.due("place()", x.place(), 0);
        CHECKS.sentence("3: n is below 0 or above what it has.");
        CHECKS.refused("end(1) of none", x, x.end(1), 3);
        Checks.put(x, "bar 1");
        for (int n : new int[] {-1, 6, 20, 120, Integer.MIN_VALUE, Integer.MAX_VALUE}) {
            CHECKS.refused("end(" + n + ") of 5", x, x.end(n), 3);
            CHECKS.due("count(4)", x.count(4), 5);
        }
        CHECKS.taken("sill", x, x.sill(0), 3);
        x = new Asked();
        CHECKS.refused("end(-1) of none", x, x.end(-1), 3);
    }

    static Checks run() {
        longestTape();
        everyByte();
        fourDigits();
        marksByThemselves();
        asLongAsTheyCanBe();
        blanksAnywhere();
        sizesAndSteps();
        tables();
        differences();
        sillsShipsAndRoutes();
        firstOfSeveral();
        somethingLacks();
        nothingBehind();
        feeding();
        ending();
        return CHECKS;
    }

    public static void main(String[] args) {
        run().close();
    }
}
