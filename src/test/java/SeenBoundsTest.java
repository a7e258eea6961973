/** The bounds of what is seen, written, drawn and kept: promises 27 to 35, sentence by sentence. */
public final class SeenBoundsTest {
    private static final int NONE = IceLaw.NONE;
    private static final int UNKNOWN = IceLaw.UNKNOWN;
    private static final int OUTSIDE = IceLaw.OUTSIDE;
    private static final int NOT = IceLaw.NOT;
    private static final int FULL = IceLaw.FULL;

    private static final String SIX = "p0 200;".repeat(6);

    public static void main(String[] args) {
        seeBounds();
        sixSeen();
        whoBounds();
        whoFits();
        whoNone();
        whoAll();
        askBounds();
        askBest();
        writeBounds();
        fifteenEntries();
        tear();
        judge();
        seedBounds();
        imageBounds();
        imageKept();
        imageAlone();
        undoBehindImages();
        imagesBehindRiver();
        Check.end("SeenBoundsTest");
    }

    private static void about(String words) {
        Check.about(words);
    }

    private static void due(String call, int got, int want) {
        Check.due(call, got, want);
    }

    // ---- see()

    private static void seeBounds() {
        about("SEEN (t 1 .. 60): how much. OUTSIDE, FULL (6).");
        Law law = Law.on("r2 1 1;p0 1;");
        for (int t : Check.outside(1, 60)) {
            due("see(" + t + ", true)", law.see(t, true), OUTSIDE);
            due("see(" + t + ", false)", law.see(t, false), OUTSIDE);
        }
        due("nothing seen", law.told(13), 0);
        due("t of 1", law.see(1, false), 1);
        due("t of 60", law.see(60, false), 2);
        due("two seen", law.told(13), 2);
        due("without a river", new Law().see(60, true), 1);
    }

    private static void sixSeen() {
        about("SEEN (6 at most)");
        Law law = Law.on("r2 1 10;p0 25;p0 35;");
        for (int k = 1; k <= 6; k++) {
            due("seen", law.see(60, false), k);
            due("told", law.told(13), k);
        }
        due("the seventh", law.see(1, true), FULL);
        due("the seventh, out of bounds first", law.see(0, true), OUTSIDE);
        due("the seventh, out of bounds first", law.see(61, true), OUTSIDE);
        due("still six", law.told(13), 6);
        due("the seventh is not seen", law.who(0), 4);
        law.tear();
        for (int k = 1; k <= 5; k++) {
            law.see(60, false);
        }
        due("the sixth is seen", law.see(3, true), 6);
        due("by all six", law.who(0), 2);
        law.tear();
        law.see(2, true);
        for (int k = 2; k <= 6; k++) {
            law.see(60, false);
        }
        due("the first is seen, too", law.who(0), 3);
    }

    // ---- who()

    private static void whoBounds() {
        about("WHO: what = 0 how many, 1 the least (NONE), 2 SURE. OUTSIDE.");
        Law law = Law.on("r2 1 1;" + SIX);
        Law none = new Law();
        for (int what : Check.outside(0, 2)) {
            due("who(" + what + ")", law.who(what), OUTSIDE);
            due("who(" + what + ") without a river", none.who(what), OUTSIDE);
        }
        due("all sets of six", law.who(0), 64);
        due("the least", law.who(1), 0);
        due("sure", law.who(2), 0);
        due("the set of none without a river", none.who(0), 1);
        due("the set of none without a river", none.who(1), 0);
        due("nobody is sure", none.who(2), 0);
        for (int persons = 0; persons <= 6; persons++) {
            due("sets of " + persons, Law.on("r2 1 1;" + "p1 3;".repeat(persons)).who(0), 1 << persons);
        }
    }

    private static void whoFits() {
        about("all alone on a CELL with t INCHES (1 .. 60), made it BREAK, or not.");
        Law equal = Law.on("r2 1 10;p0 50;");
        equal.see(5, true);
        due("as much as it bears does not break it", equal.who(0), 0);
        equal.tear();
        equal.see(5, false);
        due("as much as it bears, or nobody", equal.who(0), 2);
        Law more = Law.on("r2 1 10;p0 51;");
        more.see(5, true);
        due("one more breaks it", more.who(1), 1);
        more.tear();
        more.see(5, false);
        due("nobody", more.who(0), 1);
        due("nobody", more.who(1), 0);
        Law thick = Law.on("r2 1 3;p0 180;p1 181;");
        thick.see(60, true);
        due("181 on 60 inches, 180 not", thick.who(0), 2);
        due("the least that fits", thick.who(1), 2);
        due("in all that fit", thick.who(2), 2);
        Law thin = Law.on("r2 1 30;p0 30;p1 31;");
        thin.see(1, false);
        due("30 on one inch, 31 not", thin.who(0), 2);
        due("30 or nobody", thin.who(2), 0);
        thin.tear();
        thin.see(1, true);
        due("31, or both", thin.who(0), 2);
        due("31 is sure", thin.who(2), 2);
        about("(of all PERSONS, DROWNED or not)");
        Law drowned = Law.on("r2 1 1;t1;p0 2;p1 2;");
        drowned.step(0, 0);
        due("drowned", drowned.told(10), 1);
        due("drowned or not", drowned.who(0), 4);
        drowned.see(3, true);
        due("the drowned is sure, too", drowned.who(2), 3);
    }

    private static void whoNone() {
        about("SURE (PERSONS in all; 0 without any)");
        Law law = Law.on("r2 1 1;" + SIX);
        law.see(10, true);
        law.see(10, false);
        due("no set fits", law.who(0), 0);
        due("no least", law.who(1), NONE);
        due("nobody is sure", law.who(2), 0);
        due("nothing to ask", law.ask(), NONE);
        Law found = Law.on("r2 1 19;" + SIX);
        found.see(60, true);
        due("all six are sure", found.who(2), 63);
        found.see(60, false);
        due("no set fits any more", found.who(0), 0);
        due("no least any more", found.who(1), NONE);
        due("nobody is sure any more", found.who(2), 0);
        Law none = new Law();
        none.see(1, true);
        due("nobody breaks it", none.who(0), 0);
        due("nobody breaks it", none.who(1), NONE);
    }

    private static void whoAll() {
        about("WHO: SETS by which all that is SEEN is so");
        Law law = Law.on("r2 1 19;" + SIX);
        law.see(60, true);
        due("all six alone break 1140", law.who(0), 1);
        due("all six", law.who(1), 63);
        due("all six are sure", law.who(2), 63);
        Law equal = Law.on("r2 1 20;" + SIX);
        equal.see(60, true);
        due("1200 on 1200", equal.who(0), 0);
        Law five = Law.on("r2 1 16;" + SIX);
        five.see(60, true);
        due("five or six break 960", five.who(0), 7);
        due("the least of them", five.who(1), 31);
        due("nobody is in all", five.who(2), 0);
    }

    // ---- ask()

    private static void askBounds() {
        about("ASK: the t (1 .. 60) by which these are told apart best");
        due("the least t", Law.on("r2 1 1;p0 2;").ask(), 1);
        due("0 would part them", Law.on("r2 1 1;p0 1;").ask(), NONE);
        Law greatest = Law.on("r2 1 1;p0 60;p1 61;");
        greatest.see(59, true);
        due("the greatest t", greatest.ask(), 60);
        Law beyond = Law.on("r2 1 1;p0 61;p1 62;");
        beyond.see(60, true);
        due("61 would part them", beyond.ask(), NONE);
        due("they are three", beyond.who(0), 3);
        about("NONE: none parts them.");
        due("one alone", Law.on("r2 1 1;").ask(), NONE);
        due("without a river", new Law().ask(), NONE);
        due("all alike on an inch", Law.on("r2 1 30;p0 15;p0 15;").ask(), NONE);
        due("16 and 15 are above an inch", Law.on("r2 1 30;p0 15;p0 16;").ask(), 1);
        Law same = Law.on("r2 1 1;p0 9;p1 9;");
        same.see(8, true);
        same.see(9, false);
        due("two of one weight", same.who(0), 2);
        due("two of one weight", same.ask(), NONE);
    }

    private static void askBest() {
        about("the greatest part that is alike is least; of like ones the least");
        // 0, 10, 20, 30 of four: any t from 10 to 19 leaves two and two.
        due("halves", Law.on("r2 1 1;p0 10;p0 20;").ask(), 10);
        // 0, 5, 5, 10: one or three of four, either way.
        due("of like ones the least", Law.on("r2 1 1;p0 5;p0 5;").ask(), 1);
        due("the least t that parts", Law.on("r2 1 1;p0 50;").ask(), 1);
        due("all sets of six: 22 up to two, 20 of three", Law.on("r2 1 10;" + SIX).ask(), 40);
        Law two = Law.on("r2 1 1;p0 20;p0 30;");
        two.see(25, true);
        due("30 and 50", two.ask(), 30);
        two.see(30, false);
        due("one is left", two.ask(), NONE);
        // Sets that fitted once are out of the question: 0 and 10 of 0, 10, 20, 30.
        Law fewer = Law.on("r2 1 1;p0 10;p0 20;");
        due("halves", fewer.ask(), 10);
        fewer.see(15, false);
        due("two of four are left", fewer.ask(), 1);
        fewer.see(5, true);
        due("one of four is left", fewer.ask(), NONE);
        fewer.tear();
        due("all four again", fewer.ask(), 10);
    }

    // ---- write(), tear(), judge()

    private static void writeBounds() {
        about("An entry behind THE BOOK (0 .. 60): how many. UNKNOWN, OUTSIDE, FULL (15).");
        Law law = Law.on("r6 3 1;");
        for (int c : Check.outside(0, 17)) {
            due("write(" + c + ", 0)", law.write(c, 0), UNKNOWN);
            due("write(" + c + ", 61): the first refusal", law.write(c, 61), UNKNOWN);
        }
        for (int inches : Check.outside(0, 60)) {
            due("write(17, " + inches + ")", law.write(17, inches), OUTSIDE);
        }
        due("no entry", law.told(14), 0);
        due("0 inches", law.write(0, 0), 1);
        due("60 inches", law.write(17, 60), 2);
        due("two entries", law.told(14), 2);
        due("without a river", new Law().write(0, 61), UNKNOWN);
    }

    private static void fifteenEntries() {
        about("THE BOOK (15 at most) tells INCHES of CELLS");
        Law law = Law.on("r6 3 1;t10;");
        for (int k = 1; k <= 15; k++) {
            due("entry", law.write(k, 10), k);
            due("told", law.told(14), k);
        }
        due("the sixteenth", law.write(0, 9), FULL);
        due("the sixteenth, unknown first", law.write(18, 9), UNKNOWN);
        due("the sixteenth, unknown first", law.write(18, 61), UNKNOWN);
        due("the sixteenth, out of bounds first", law.write(0, 61), OUTSIDE);
        due("still fifteen", law.told(14), 15);
        due("the sixteenth is not written", law.judge(), NONE);
        law.salt(0, 15, 1);
        due("the last entry is", law.judge(), 14);
        law.salt(0, 1, 1);
        due("the first entry is", law.judge(), 0);
        due("one cell may have many", Law.on("r2 1 1;").write(0, 1), 1);
        due("empty, it takes entries again", law.tear(), 15);
        for (int k = 1; k <= 15; k++) {
            due("entry again", law.write(0, 10), k);
        }
        due("the sixteenth again", law.write(0, 10), FULL);
    }

    private static void tear() {
        about("Nothing SEEN, THE BOOK is empty: how much both had.");
        Law law = Law.on("r2 1 1;p0 1;");
        due("both empty", law.tear(), 0);
        for (int k = 0; k < 6; k++) {
            law.see(1, true);
        }
        for (int k = 0; k < 15; k++) {
            law.write(0, 60);
        }
        due("both full", law.tear(), 21);
        due("nothing seen", law.told(13), 0);
        due("no book", law.told(14), 0);
        due("all sets fit", law.who(0), 2);
        due("nothing is wrong", law.judge(), NONE);
        due("both empty again", law.tear(), 0);
        law.see(1, true);
        due("seen alone", law.tear(), 1);
        law.write(0, 1);
        due("the book alone", law.tear(), 1);
        due("without a river", new Law().tear(), 0);
    }

    private static void judge() {
        about("WRONG: the first that is otherwise now; NONE.");
        Law law = Law.on("r2 1 1;t0,40;n20;");
        due("an empty book", law.judge(), NONE);
        law.write(0, 0);
        law.write(1, 40);
        due("as it is", law.judge(), NONE);
        law.write(1, 39);
        due("one fewer", law.judge(), 2);
        law.write(1, 41);
        due("the first of two", law.judge(), 2);
        law.night(2);
        due("now", law.judge(), 0);
        law.undo();
        due("now again", law.judge(), 2);
        law.tear();
        law.write(0, 1);
        due("one more than a hole", law.judge(), 0);
        law.tear();
        law.night(6);
        law.write(0, 60);
        due("60 inches", law.judge(), NONE);
        due("without a river", new Law().judge(), NONE);
    }

    // ---- seed(), keep(), goBack()

    private static void seedBounds() {
        about("THE SEED becomes v (0 .. 2147483647): what it was. OUTSIDE.");
        Law law = new Law();
        due("0 at first", law.seed(2147483647), 0);
        for (int v : new int[] {-1, -2, Integer.MIN_VALUE, UNKNOWN, FULL, -65536}) {
            due("seed(" + v + ")", law.seed(v), OUTSIDE);
        }
        due("the greatest", law.seed(2147483646), 2147483647);
        due("one fewer", law.seed(0), 2147483646);
        due("the least", law.seed(1), 0);
        due("what it was", law.seed(1), 1);
        about("left over by 2 to the 31");
        Law draws = Law.on("r2 1 1;");
        draws.seed(2147483647);
        draws.drift(1);
        due("from the greatest", draws.seed(0), 1043980748);
        for (int k = 0; k < 100; k++) {
            draws.drift(3);
            int seed = draws.seed(0);
            due("never below 0", seed >= 0 ? 1 : 0, 1);
            draws.seed(seed);
        }
    }

    private static void imageBounds() {
        about("UNKNOWN (a CELL, PERSON, IMAGE that there is not; bits of such)");
        Law law = Law.on("r2 1 1;");
        for (int i : Check.outside(0, 1)) {
            due("keep(" + i + ")", law.keep(i), UNKNOWN);
            due("goBack(" + i + ")", law.goBack(i), UNKNOWN);
        }
        for (int i : new int[] {31, 32, 33, 63, 64, -32, -31}) {
            due("keep(" + i + ")", law.keep(i), UNKNOWN);
            due("goBack(" + i + ")", law.goBack(i), UNKNOWN);
        }
        about("UNKNOWN, NOT: it was not kept.");
        due("not kept", law.goBack(0), NOT);
        due("not kept", law.goBack(1), NOT);
        due("kept", law.keep(1), 1);
        due("the other is not", law.goBack(0), NOT);
        due("kept", law.goBack(1), 1);
        due("kept", law.keep(0), 1);
        due("both are", law.goBack(0) + law.goBack(1), 2);
        due("unknown still", law.goBack(2), UNKNOWN);
        Law none = new Law();
        due("without a river, not kept", none.goBack(0), NOT);
        due("without a river, unknown", none.keep(2), UNKNOWN);
        none.seed(8);
        due("without a river, kept", none.keep(0), 1);
        none.seed(9);
        due("without a river, gone back", none.goBack(0), 1);
        due("the seed", none.seed(0), 8);
    }

    private static void imageKept() {
        about("IMAGES 0, 1 keep all of section 2, THE SEED.");
        Law law = Law.on("r3 1 10;t8;n12,7;p0 70;p1 70;p1 1;");
        law.night(3);
        law.step(0, 0);
        law.step(1, 2);
        law.salt(1, 2, 60);
        law.snow(1, true);
        law.seed(2147483647);
        law.keep(0);
        for (int round = 0; round < 3; round++) {
            law.night(1);
            law.spring();
            law.salt(0, 0, 60);
            law.drift(5);
            law.seed(1);
            due("goes back as often as asked", law.goBack(0), 1);
            int[] whats = {5, 6, 7, 8, 9, 10, 11, 12, 15};
            int[] wanted = {3, 1, 4, 2, 1, 2, 1, 0, 0};
            for (int k = 0; k < whats.length; k++) {
                due("kept: told(" + whats[k] + ")", law.told(whats[k]), wanted[k]);
            }
            due("kept: inches", law.cell(0, 0), 9);
            due("kept: where", law.person(0, 2), 0);
            due("kept: drowned", law.person(1, 2), -2);
            due("kept: on the bank", law.person(2, 2), NONE);
            due("kept: seed", law.seed(3), 2147483647);
        }
    }

    private static void imageAlone() {
        about("IMAGE i becomes what is so");
        Law law = Law.on("r2 1 1;n11;t5;");
        law.keep(0);
        law.night(1);
        law.keep(1);
        law.night(1);
        law.see(1, true);
        law.write(0, 6);
        law.tell("r2");
        law.goBack(0);
        due("image 0", law.cell(0, 0), 5);
        law.goBack(1);
        due("image 1", law.cell(0, 0), 6);
        due("what is seen is in no image", law.told(13), 1);
        due("the book is in no image", law.told(14), 1);
        due("the book is judged by what is so", law.judge(), NONE);
        due("the text is in no image", law.told(4), 2);
        law.night(1);
        law.keep(0);
        law.night(9);
        due("the latest of image 0", law.goBack(0), 1);
        due("the latest of image 0", law.cell(0, 0), 7);
        due("image 1 is as it was", law.goBack(1), 1);
        due("image 1 is as it was", law.cell(0, 0), 6);
        law.night(1);
        due("an image does not go on with the river", law.goBack(1), 1);
        due("an image does not go on with the river", law.told(5), 1);
    }

    private static void undoBehindImages() {
        about("(nothing can be undone then)");
        Law law = Law.on("r2 1 1;n11;t5;");
        for (int k = 0; k < 20; k++) {
            law.night(1);
        }
        due("16 can be", law.told(15), 16);
        law.keep(1);
        due("none behind keep()", law.told(15), 0);
        due("none behind keep()", law.undo(), NOT);
        law.night(1);
        due("one can be", law.undo(), 0);
        law.night(1);
        law.goBack(1);
        due("none behind goBack()", law.told(15), 0);
        due("none behind goBack()", law.undo(), NOT);
        law.night(2);
        due("refused: it was not kept", law.goBack(0), NOT);
        due("refused: unknown", law.goBack(2), UNKNOWN);
        due("refused: unknown", law.keep(2), UNKNOWN);
        due("what is refused leaves what can be undone", law.told(15), 1);
        due("undone", law.undo(), 0);
        due("nights", law.told(5), 20);
    }

    private static void imagesBehindRiver() {
        about("IMAGES, what could be undone are gone");
        Law law = Law.on("r2 1 1;");
        law.keep(0);
        law.keep(1);
        law.night(1);
        law.read("r2 1 1;");
        due("gone", law.goBack(0), NOT);
        due("gone", law.goBack(1), NOT);
        due("gone", law.undo(), NOT);
        law.keep(1);
        due("kept anew", law.goBack(1), 1);
        due("not kept anew", law.goBack(0), NOT);
    }
}
