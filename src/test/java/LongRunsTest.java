/** Bounds that need many calls: an object is good for 512 of them, the 512th as well as the first. */
public final class LongRunsTest {
    private static final int NONE = IceLaw.NONE;
    private static final int OUTSIDE = IceLaw.OUTSIDE;
    private static final int NOT = IceLaw.NOT;
    private static final int FULL = IceLaw.FULL;

    public static void main(String[] args) {
        Check.about("An object is used for at most 512 calls after it has been made");
        textAndNights();
        twoTexts();
        manyRivers();
        stepsToAndFro();
        doneAndUndone();
        driftAllTheWay();
        fullAgainAndAgain();
        imagesAgainAndAgain();
        Check.end("LongRunsTest");
    }

    private static void due(String call, int got, int want) {
        Check.due(call, got, want);
    }

    /** 240 letters, then 9001 nights, then what can be undone; the last call is the 512th. */
    private static void textAndNights() {
        Law law = new Law();
        String text = "r6 3 30;t" + "40,".repeat(17) + "40;c0;n10,11,9;" + "p1 200;".repeat(6);
        law.tell(text + " ".repeat(240 - text.length()));
        due("240 letters", law.told(4), 240);
        due("the letter behind them", law.feed(' '), FULL);
        due("river", law.river(), 18);
        for (int k = 1; k <= 150; k++) {
            due("night", law.night(60), k * 60);
        }
        due("9000 is not above", law.night(1), 9001);
        due("9001 is above", law.night(1), FULL);
        due("9001 is above", law.drift(60), FULL);
        for (int k = 15; k >= 0; k--) {
            due("undo", law.undo(), k);
        }
        due("no more", law.undo(), NOT);
        due("nights", law.told(5), 135 * 60);
        for (int c = 0; c < 18; c++) {
            due("as thick as at first: cell " + c, law.cell(c, 0), 40);
        }
        for (int p = 0; p < 6; p++) {
            due("all six on the last cell", law.step(p, 17), 0);
        }
        due("as much as it bears", law.cell(17, 5), 10000);
        while (law.calls() < Law.MOST_CALLS - 1) {
            due("it cracks", law.told(9), 1 << 17);
        }
        due("the 512th: one inch breaks it", law.salt(0, 17, 1), 1);
    }

    private static void twoTexts() {
        Law law = new Law();
        law.tell("r2 1 1" + " ".repeat(234));
        due("a fault at the end of 240", law.river(), -11);
        due("its letter", law.fault(), 240);
        law.tell("r3 1" + " ".repeat(234) + "7;");
        due("full again", law.feed(';'), FULL);
        due("out of bounds first", law.feed(-1), OUTSIDE);
        due("240 again", law.river(), 3);
        due("no fault", law.fault(), NONE);
        while (law.calls() < Law.MOST_CALLS - 1) {
            due("what it bears", law.cell(2, 1), 70);
        }
        due("the 512th", law.told(2), 7);
    }

    private static void manyRivers() {
        Law law = new Law();
        for (int k = 0; k < 50; k++) {
            int w = 2 + k % 5;
            due("river " + k, law.read("r" + w + " 1 1;"), w);
            due("its columns", law.told(0), w);
            due("one behind the last cell", law.cell(w, 0), IceLaw.UNKNOWN);
        }
        due("an empty text", law.river(), 0);
        due("no river", law.spring(), NOT);
    }

    /** Up and down the whole river, far more than can be undone. */
    private static void stepsToAndFro() {
        Law law = Law.on("r6 3 1;t5;p0 5;");
        int steps = 0;
        for (int round = 0; round < 20; round++) {
            for (int column = 0; column < 6; column++) {
                due("forth", law.step(0, column), 0);
                steps++;
            }
            for (int column = 4; column >= NONE; column--) {
                due("and back", law.step(0, column), 0);
                steps++;
            }
            due("on the bank", law.person(0, 2), NONE);
            due("can be undone", law.told(15), Math.min(16, steps));
        }
        for (int k = 15; k >= 0; k--) {
            due("undo", law.undo(), k);
        }
        // The last round has 12 of the 16; the others are the four latest on the way back ahead of it, from column 3.
        due("where it was", law.person(0, 2), 3);
    }

    private static void doneAndUndone() {
        Law law = Law.on("r2 1 1;t0;n11;");
        for (int k = 1; k <= 60; k++) {
            due("a night", law.night(1), k);
            due("undone", law.undo(), Math.min(15, k - 1));
            due("a night again", law.night(1), k);
            due("inches", law.cell(0, 0), k);
        }
        for (int k = 1; k <= 16; k++) {
            due("undone", law.undo(), 16 - k);
            due("inches", law.cell(0, 0), 60 - k);
        }
        due("none is left", law.undo(), NOT);
    }

    private static void driftAllTheWay() {
        Law law = Law.on("r2 1 1;n10;");
        law.seed(2147483647);
        long seed = 2147483647;
        for (int k = 0; k < 150; k++) {
            due("drift", law.drift(60), 0);
        }
        for (int k = 0; k < 9000; k++) {
            seed = Check.drawn(seed);
            seed = seed / 65536 % 4 == 0 ? Check.drawn(seed) : seed;
        }
        due("9000 nights", law.told(5), 9000);
        due("the seed by then", law.seed((int) seed), (int) seed);
        due("9000 is not above", law.drift(60), 0);
        due("9060 is above", law.drift(1), FULL);
        due("no draw was made", law.told(5), 9060);
        for (int k = 0; k < 60; k++) {
            seed = Check.drawn(seed);
            seed = seed / 65536 % 4 == 0 ? Check.drawn(seed) : seed;
        }
        due("the seed by then", law.seed(0), (int) seed);
    }

    private static void fullAgainAndAgain() {
        Law law = Law.on("r2 1 1;");
        for (int round = 0; round < 16; round++) {
            for (int k = 1; k <= 6; k++) {
                due("seen", law.see(k, false), k);
            }
            due("the seventh", law.see(1, false), FULL);
            for (int k = 1; k <= 15; k++) {
                due("written", law.write(1, 10), k);
            }
            due("the sixteenth", law.write(1, 10), FULL);
            due("judged", law.judge(), NONE);
            due("torn", law.tear(), 21);
        }
    }

    private static void imagesAgainAndAgain() {
        Law law = Law.on("r2 1 1;t0;n11;");
        for (int k = 1; k <= 60; k++) {
            law.night(1);
            due("keep", law.keep(k % 2), 1);
            if (k > 1) {
                due("one back", law.goBack((k + 1) % 2), 1);
                due("one back", law.cell(0, 0), k - 1);
                due("and forth", law.goBack(k % 2), 1);
            }
            due("and forth", law.told(5), k);
        }
    }
}
