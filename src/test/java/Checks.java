/** What the tests of the project share: feeding a text, reading one back, and counting the answers that are not due. */
final class Checks {
    private int wrong = 0;
    private int asked = 0;

    void due(String what, int got, int want) {
        asked++;
        if (got != want) {
            wrong++;
            System.out.println(what + " answered " + got + ", due is " + want);
        }
    }

    void due(String what, String got, String want) {
        asked++;
        if (!got.equals(want)) {
            wrong++;
            System.out.println(what + " answered '" + got + "', due is '" + want + "'");
        }
    }

    /** A call that was refused: it answered BAD, and the status is this one. */
    void refused(String what, SillHours x, int got, int status) {
        due(what, got, SillHours.BAD);
        due("status() behind " + what, x.status(), status);
    }

    /** A call that was taken. */
    void taken(String what, SillHours x, int got, int want) {
        due(what, got, want);
        due("status() behind " + what, x.status(), 0);
    }

    static SillHours put(SillHours x, String text) {
        int before = x.count(4);
        StringBuilder full = new StringBuilder(text);
        while (full.length() % 20 != 0) {
            full.append('?');
        }
        for (int i = 0; i < full.length(); i += 20) {
            int[] words = new int[5];
            for (int k = 0; k < 20; k++) {
                words[k / 4] = words[k / 4] << 8 | full.charAt(i + k) & 255;
            }
            x.feed(words[0], words[1], words[2], words[3], words[4]);
        }
        x.end(before + text.length());
        return x;
    }

    static int port(SillHours x, String text) {
        return put(x, text).port();
    }

    static int longer(SillHours x, int port, String text) {
        return put(x, text).longer(port);
    }

    static int second(SillHours x, int port, String text) {
        return put(x, text).second(port);
    }

    static int sill(SillHours x, int port, String text) {
        return put(x, text).sill(port);
    }

    static int ship(SillHours x, String text) {
        return put(x, text).ship();
    }

    static int route(SillHours x, String text) {
        return put(x, text).route();
    }

    static String written(SillHours x, int what, int number) {
        StringBuilder all = new StringBuilder();
        for (int k = 0; k < 1000; k++) {
            int sign = x.letter(what, number, k);
            if (sign == SillHours.BAD) {
                break;
            }
            all.append((char) sign);
        }
        return all.toString();
    }

    static String note(SillHours x, int sill, int ship) {
        StringBuilder all = new StringBuilder();
        for (int k = 0; k < 1000; k++) {
            int sign = x.note(sill, ship, k);
            if (sign == SillHours.BAD) {
                break;
            }
            all.append((char) sign);
        }
        return all.toString();
    }

    void close() {
        System.out.println(wrong == 0 ? asked + " answers are as due" : wrong + " of " + asked + " answers are not as due");
        if (wrong != 0) {
            System.exit(1);
        }
    }
}
