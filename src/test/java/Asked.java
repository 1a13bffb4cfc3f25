/** A SillHours whose calls are counted: nothing is promised behind the 512th, so no test may ask more of one object. */
final class Asked {
    static final int MOST_CALLS = 512;

    private final SillHours hours = new SillHours();
    private int calls = 0;

    private SillHours next() {
        calls++;
        if (calls > MOST_CALLS) {
            throw new IllegalStateException("a test asks more than 512 calls of one object");
        }
        return hours;
    }

    int callsLeft() {
        return MOST_CALLS - calls;
    }

    int feed(int a, int b, int c, int d, int e) {
        return next().feed(a, b, c, d, e);
    }

    int end(int n) {
        return next().end(n);
    }

    int port() {
        return next().port();
    }

    int longer(int port) {
        return next().longer(port);
    }

    int second(int port) {
        return next().second(port);
    }

    int sill(int port) {
        return next().sill(port);
    }

    int ship() {
        return next().ship();
    }

    int route() {
        return next().route();
    }

    int place() {
        return next().place();
    }

    int fault() {
        return next().fault();
    }

    int count(int what) {
        return next().count(what);
    }

    int turns(int port) {
        return next().turns(port);
    }

    int turn(int port, int i, int what) {
        return next().turn(port, i, what);
    }

    int water(int port, int t) {
        return next().water(port, t);
    }

    int above(int port, int t, int h) {
        return next().above(port, t, h);
    }

    int rise(int port, int h, int t) {
        return next().rise(port, h, t);
    }

    int ebb(int port, int h, int t) {
        return next().ebb(port, h, t);
    }

    int hours(int sill, int ship) {
        return next().hours(sill, ship);
    }

    int hour(int sill, int ship, int k, int what) {
        return next().hour(sill, ship, k, what);
    }

    int minutes(int sill, int ship) {
        return next().minutes(sill, ship);
    }

    int good(int sill, int ship, int t) {
        return next().good(sill, ship, t);
    }

    int note(int sill, int ship, int k) {
        return next().note(sill, ship, k);
    }

    int stops(int route) {
        return next().stops(route);
    }

    int leg(int route, int ship, int i) {
        return next().leg(route, ship, i);
    }

    int arrive(int route, int ship, int t) {
        return next().arrive(route, ship, t);
    }

    int pass(int route, int ship, int t, int i) {
        return next().pass(route, ship, t, i);
    }

    int waits(int route, int ship, int t) {
        return next().waits(route, ship, t);
    }

    int start(int route, int ship, int t) {
        return next().start(route, ship, t);
    }

    int letter(int what, int number, int k) {
        return next().letter(what, number, k);
    }

    int same(int one, int other) {
        return next().same(one, other);
    }

    int status() {
        return next().status();
    }
}
