import java.util.LinkedHashSet;
import java.util.Set;

/** What the tests of the project share: feeding a text, reading one back, and counting the answers that are not due. */
final class Checks {
    /** The port that harbour() has: minutes 0 to 720; 600 and more from 180 to 540. */
    static final String ONE_TIDE = "lw0000 0,hw0600 1200,lw1200 0";

    private int wrong = 0;
    private int asked = 0;
    private String sentence = "";
    private final Set<String> sentences = new LinkedHashSet<>();
    private final Set<String> broken = new LinkedHashSet<>();

    /** What is asked from here on holds this sentence of the document. */
    void sentence(String words) {
        sentence = words;
        sentences.add(words);
    }

    Set<String> allSentences() {
        return sentences;
    }

    /** The sentences of which an answer was not as due. */
    Set<String> brokenSentences() {
        return broken;
    }

    private void tellWrong(String how) {
        wrong++;
        if (!sentence.isEmpty() && broken.add(sentence)) {
            System.out.println("not so: " + sentence);
        }
        System.out.println(how);
    }

    void due(String what, int got, int want) {
        asked++;
        if (got != want) {
            tellWrong(what + " answered " + got + ", due is " + want);
        }
    }

    void due(String what, String got, String want) {
        asked++;
        if (!got.equals(want)) {
            tellWrong(what + " answered '" + got + "', due is '" + want + "'");
        }
    }

    /** A call that was refused: it answered BAD, and the status is this one. */
    void refused(String what, Asked x, int got, int status) {
        due(what, got, SillHours.BAD);
        due("status() behind " + what, x.status(), status);
    }

    /** A call that was taken. */
    void taken(String what, Asked x, int got, int want) {
        due(what, got, want);
        due("status() behind " + what, x.status(), 0);
    }

    /** A right text: taken as this number or, if it has a fault, refused; count(row) tells how many there are behind it. */
    void judged(String what, Asked x, int got, int row, int number, int fault) {
        if (fault == 0) {
            taken(what, x, got, number);
        } else {
            refused(what, x, got, 4);
        }
        due("fault() of " + what, x.fault(), fault);
        due("place() of " + what, x.place(), SillHours.BAD);
        due("count(" + row + ") behind " + what, x.count(row), fault == 0 ? number + 1 : number);
    }

    static Asked put(Asked x, String text) {
        int before = x.count(4);
        StringBuilder full = new StringBuilder(text);
        while (full.length() % 20 != 0) {
            full.append('?');
        }
        for (int i = 0; i < full.length(); i += 20) {
            int[] words = new int[5];
            for (int k = 0; k < 20; k++) {
                words[k / 4] = words[k / 4] << 8 | full.charAt(i + k) & 255;
            }
            x.feed(words[0], words[1], words[2], words[3], words[4]);
        }
        x.end(before + text.length());
        return x;
    }

    /** Reads a text of a kind: p port(), l longer(), d second(), s sill(), h ship(), r route(). */
    static int read(Asked x, char kind, int port, String text) {
        put(x, text);
        return call(x, kind, port);
    }

    static int call(Asked x, char kind, int port) {
        switch (kind) {
            case 'p':
                return x.port();
            case 'l':
                return x.longer(port);
            case 'd':
                return x.second(port);
            case 's':
                return x.sill(port);
            case 'h':
                return x.ship();
            default:
                return x.route();
        }
    }

    /** One port, one sill, one ship and one route, so that the next of each is number 1. */
    static Asked harbour() {
        Asked x = new Asked();
        port(x, ONE_TIDE);
        sill(x, 0, "bar 0");
        ship(x, "100 0 10");
        route(x, "0");
        return x;
    }

    static int port(Asked x, String text) {
        return put(x, text).port();
    }

    static int longer(Asked x, int port, String text) {
        return put(x, text).longer(port);
    }

    static int second(Asked x, int port, String text) {
        return put(x, text).second(port);
    }

    static int sill(Asked x, int port, String text) {
        return put(x, text).sill(port);
    }

    static int ship(Asked x, String text) {
        return put(x, text).ship();
    }

    static int route(Asked x, String text) {
        return put(x, text).route();
    }

    static String written(Asked x, int what, int number) {
        StringBuilder all = new StringBuilder();
        for (int k = 0; k < 1000; k++) {
            int sign = x.letter(what, number, k);
            if (sign == SillHours.BAD) {
                break;
            }
            all.append((char) sign);
        }
        return all.toString();
    }

    static String note(Asked x, int sill, int ship) {
        StringBuilder all = new StringBuilder();
        for (int k = 0; k < 1000; k++) {
            int sign = x.note(sill, ship, k);
            if (sign == SillHours.BAD) {
                break;
            }
            all.append((char) sign);
        }
        return all.toString();
    }

    void close() {
        System.out.println(wrong == 0 ? asked + " answers are as due" : wrong + " of " + asked + " answers are not as due");
        if (wrong != 0) {
            System.exit(1);
        }
    }
}
