/** The class as all tests use it: its calls are counted, as nothing is promised behind the 512th. */
final class Law {
    static final int MOST_CALLS = 512;

    private final IceLaw law = new IceLaw();
    private int calls = 0;

    /** A law with the river of a text that has no fault. */
    static Law on(String text) {
        Law law = new Law();
        if (law.read(text) < 0) {
            Check.fail("the text has a fault: " + text);
        }
        return law;
    }

    void tell(String text) {
        for (int k = 0; k < text.length(); k++) {
            feed(text.charAt(k));
        }
    }

    int read(String text) {
        tell(text);
        return river();
    }

    int calls() {
        return calls;
    }

    /** How many calls more are promised to be answered. */
    int left() {
        return MOST_CALLS - calls;
    }

    private IceLaw next() {
        calls++;
        if (calls > MOST_CALLS) {
            Check.fail("this test asks more than is promised: call " + calls);
        }
        return law;
    }

    int feed(int letter) {
        return next().feed(letter);
    }

    int river() {
        return next().river();
    }

    int fault() {
        return next().fault();
    }

    int told(int what) {
        return next().told(what);
    }

    int cell(int c, int what) {
        return next().cell(c, what);
    }

    int person(int p, int what) {
        return next().person(p, what);
    }

    int cold(int k) {
        return next().cold(k);
    }

    int night(int n) {
        return next().night(n);
    }

    int step(int p, int c) {
        return next().step(p, c);
    }

    int salt(int b, int c, int n) {
        return next().salt(b, c, n);
    }

    int snow(int c, boolean is) {
        return next().snow(c, is);
    }

    int spring() {
        return next().spring();
    }

    int drift(int n) {
        return next().drift(n);
    }

    int undo() {
        return next().undo();
    }

    int then(int c, int n) {
        return next().then(c, n);
    }

    int when(int c, int weight) {
        return next().when(c, weight);
    }

    int noMore(int c, int weight) {
        return next().noMore(c, weight);
    }

    int over(int p, int what) {
        return next().over(p, what);
    }

    int fewest(int c) {
        return next().fewest(c);
    }

    int leastSalt(int c) {
        return next().leastSalt(c);
    }

    int lives(int p, int what) {
        return next().lives(p, what);
    }

    int heard(int c) {
        return next().heard(c);
    }

    int game(int a, int b, int c, int d, int what) {
        return next().game(a, b, c, d, what);
    }

    int tolls(int n, int c) {
        return next().tolls(n, c);
    }

    int thaw(int n, int q) {
        return next().thaw(n, q);
    }

    int see(int t, boolean broke) {
        return next().see(t, broke);
    }

    int who(int what) {
        return next().who(what);
    }

    int ask() {
        return next().ask();
    }

    int write(int c, int inches) {
        return next().write(c, inches);
    }

    int tear() {
        return next().tear();
    }

    int judge() {
        return next().judge();
    }

    int seed(int v) {
        return next().seed(v);
    }

    int keep(int i) {
        return next().keep(i);
    }

    int goBack(int i) {
        return next().goBack(i);
    }
}
