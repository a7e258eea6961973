import java.util.Random;

/** The bounds of what is done: section 2 and promises 9 to 15, sentence by sentence. */
public final class DoneBoundsTest {
    private static final int NONE = IceLaw.NONE;
    private static final int UNKNOWN = IceLaw.UNKNOWN;
    private static final int OUTSIDE = IceLaw.OUTSIDE;
    private static final int NOT = IceLaw.NOT;
    private static final int FULL = IceLaw.FULL;
    private static final int DROWNED = -2;

    public static void main(String[] args) {
        whereAtFirst();
        nextOnes();
        halfTogether();
        bears();
        cracks();
        whereToStep();
        stepOnHoles();
        stepBounds();
        breaksAbove();
        breaksAtOnce();
        tillNoneDoes();
        whoseRiver();
        nightByCold();
        inchesTop();
        inchesBottom();
        nightBreaks();
        nightDrowns();
        nightsCounted();
        nightBounds();
        nineThousand();
        saltInches();
        saltBreaks();
        saltBounds();
        snowBounds();
        spring();
        driftBounds();
        draws();
        drawsDone();
        undoBounds();
        undoneEach();
        notUndone();
        Check.end("DoneBoundsTest");
    }

    private static void about(String words) {
        Check.about(words);
    }

    private static void due(String call, int got, int want) {
        Check.due(call, got, want);
    }

    // ---- load

    /** The k-th cell of a walk over all, row by row to and fro, from the left or the right bank. */
    private static int walked(int k, int w, int town) {
        int row = k / w;
        boolean isForth = row % 2 == town;
        return row * w + (isForth ? k % w : w - 1 - k % w);
    }

    private static boolean areNext(int a, int b, int w) {
        return Math.abs(a / w - b / w) + Math.abs(a % w - b % w) == 1;
    }

    private static void whereAtFirst() {
        about("A PERSON is on the bank of the town (at first), on a CELL, or DROWNED.");
        Law law = Law.on("r2 1 1;t2,1;p0 2;p1 2;p0 2;p1 2;p0 2;p1 1;");
        for (int p = 0; p < 6; p++) {
            due("on the bank", law.person(p, 2), NONE);
        }
        due("nobody is drowned", law.told(10), 0);
        due("the left comes from the left", law.step(0, 1), NOT);
        due("the left comes from the left", law.step(0, 0), 0);
        due("on a cell", law.person(0, 2), 0);
        due("the right comes from the right", law.step(5, 0), NOT);
        due("drowned", law.step(3, 1), 2);
        due("drowned", law.person(3, 2), DROWNED);
        about("10 who is DROWNED (a SET of PERSONS)");
        due("bits 0 and 3", law.told(10), 9);
        Law all = Law.on("r2 3 1;t1;" + "p0 2;p1 2;".repeat(3));
        for (int p = 0; p < 6; p++) {
            due("each breaks its own", all.step(p, p), 1);
            due("bits 0 to " + p, all.told(10), (2 << p) - 1);
        }
        due("the town's of the first who broke", all.told(6), 0);
    }

    private static void nextOnes() {
        about("NEXT to a CELL are those above, below, left, right of it.");
        for (int w = 2; w <= 6; w++) {
            for (int h = 1; h <= 3; h++) {
                Law law = Law.on("r" + w + " " + h + " 30;t40;p0 200;");
                for (int k = 0; k < w * h; k++) {
                    int at = walked(k, w, 0);
                    due("step to " + at, law.step(0, at), 0);
                    for (int c = 0; c < w * h; c++) {
                        int want = c == at ? 200 : areNext(c, at, w) ? 100 : 0;
                        due(w + " " + h + ": on " + at + ", load of " + c, law.cell(c, 2), want);
                    }
                }
            }
        }
    }

    private static void halfTogether() {
        about("WEIGHTS on it, and half (cut) of the WEIGHTS on all NEXT to it together.");
        Law law = Law.on("r3 3 30;t40;p0 1;p1 1;p0 1;p0 2;");
        law.step(0, 3);
        due("half of 1 is cut", law.cell(4, 2), 0);
        law.step(1, 5);
        due("half of 1 and 1 together", law.cell(4, 2), 1);
        law.step(2, 0);
        law.step(2, 1);
        due("half of 3 is cut", law.cell(4, 2), 1);
        law.step(3, 6);
        law.step(3, 7);
        due("half of 5 is cut, from all four sides", law.cell(4, 2), 2);
        law.step(2, 4);
        due("what is on it is not halved", law.cell(4, 2), 3);
        Law banks = Law.on("r2 1 30;t40;p0 200;p1 200;");
        due("nobody on the banks weighs", banks.cell(0, 2), 0);
        banks.step(0, 0);
        banks.salt(0, 0, 60);
        due("nobody who is drowned weighs", banks.cell(1, 2), 0);
    }

    private static void bears() {
        about("It BEARS S times its INCHES. A HOLE has 0 INCHES.");
        Law law = Law.on("r2 1 30;t1,0;n20;");
        due("one inch", law.cell(0, 1), 30);
        due("a hole", law.cell(1, 1), 0);
        due("holes", law.told(7), 2);
        law.night(6);
        due("60 inches", law.cell(0, 1), 1800);
        due("no holes", law.told(7), 0);
        Law all = Law.on("r6 3 1;t0;");
        due("all are holes", all.told(7), 262143);
        due("the last is one", Law.on("r6 3 1;t" + "1,".repeat(17) + "0;").told(7), 131072);
    }

    private static void cracks() {
        about("It CRACKS, if its LOAD is above 3 / 4 of what it BEARS (times 3, / 4, cut), and no more than it BEARS.");
        for (int inches = 1; inches <= 40; inches++) {
            for (int weight = 1; weight <= 42; weight++) {
                Law law = Law.on("r3 1 1;t" + inches + ",40,40;p0 " + weight + ";");
                int broke = law.step(0, 0);
                due(weight + " on " + inches + " breaks", broke, weight > inches ? 1 : 0);
                int cracks = weight <= inches && weight > inches * 3 / 4 ? 1 : 0;
                due(weight + " on " + inches + " cracks", law.told(9), cracks);
            }
        }
        Law hole = Law.on("r2 1 30;t40,0;p0 200;");
        hole.step(0, 0);
        due("a hole with a load", hole.cell(1, 2), 100);
        due("a hole does not crack", hole.told(9), 0);
        due("nothing cracks without a load", Law.on("r6 3 30;t1;").told(9), 0);
        Law full = Law.on("r2 1 30;t40;" + "p1 200;".repeat(6));
        for (int p = 0; p < 6; p++) {
            due("all six on the thickest", full.step(p, 1), 0);
            due("cracks by " + (p + 1), full.told(9), p < 4 ? 0 : 2);
        }
        Law last = Law.on("r6 3 1;t1;p1 1;");
        last.step(0, 17);
        due("the last cell cracks", last.told(9), 131072);
    }

    // ---- step()

    private static void whereToStep() {
        about("a PERSON goes to a CELL NEXT to its own, that is no HOLE; from the bank to one of COLUMN 0 (left), of COLUMN W less 1 (right); back to its own bank from there (NONE).");
        int[][] sizes = {{2, 1}, {2, 3}, {3, 3}, {6, 1}, {5, 2}};
        for (int[] size : sizes) {
            for (int town = 0; town <= 1; town++) {
                Law law = Law.on("r" + size[0] + " " + size[1] + " 1;t1;p" + town + " 1;");
                dueWays(law, size[0] * size[1], size[0], NONE, town);
                for (int k = 0; k < size[0] * size[1]; k++) {
                    int at = walked(k, size[0], town);
                    due("walks on to " + at, law.step(0, at), 0);
                    dueWays(law, size[0] * size[1], size[0], at, town);
                }
            }
        }
    }

    /** From where it is, the person can go just where the document says; each step is undone. */
    private static void dueWays(Law law, int cells, int w, int from, int town) {
        int column = town == 0 ? 0 : w - 1;
        for (int c = NONE; c < cells; c++) {
            boolean isBank = c == NONE && from != NONE && from % w == column;
            boolean isEntry = c != NONE && from == NONE && c % w == column;
            boolean isNext = c != NONE && from != NONE && areNext(from, c, w);
            boolean can = isBank || isEntry || isNext;
            due(w + " columns, town " + town + ", from " + from + " to " + c, law.step(0, c), can ? 0 : NOT);
            if (can) {
                due("it is there", law.person(0, 2), c);
                law.undo();
            }
            due("it is back", law.person(0, 2), from);
        }
    }

    private static void stepOnHoles() {
        about("UNKNOWN, NOT: it is DROWNED, it cannot go there.");
        Law law = Law.on("r3 2 10;t9,0,9,0,9,9;p0 1;p1 1;p1 2;");
        due("from the bank onto a hole", law.step(0, 3), NOT);
        law.step(0, 0);
        due("right onto a hole", law.step(0, 1), NOT);
        due("down onto a hole", law.step(0, 3), NOT);
        law.step(1, 5);
        law.step(1, 4);
        due("up onto a hole", law.step(1, 1), NOT);
        due("left onto a hole", law.step(1, 3), NOT);
        due("nothing of it can be undone", law.told(15), 3);
        law.salt(0, 4, 60);
        due("who is drowned, to a cell next to its own", law.step(1, 5), NOT);
        due("who is drowned, from the bank", law.step(1, 2), NOT);
        due("who is drowned, to the bank", law.step(1, NONE), NOT);
        due("who is drowned, to a cell that there is not", law.step(1, 6), UNKNOWN);
        due("back beside holes", law.step(0, NONE), 0);
        Law thin = Law.on("r2 1 1;t1;p0 1;");
        due("one inch is no hole", thin.step(0, 0), 0);
    }

    private static void stepBounds() {
        about("A STEP to a CELL (NONE: to the bank): how many CELLS BROKE by it.");
        Law law = Law.on("r2 1 30;p0 1;p1 1;");
        for (int p : Check.outside(0, 1)) {
            due("step(" + p + ", 0)", law.step(p, 0), UNKNOWN);
            due("step(" + p + ", NONE)", law.step(p, NONE), UNKNOWN);
            due("step(" + p + ", 2)", law.step(p, 2), UNKNOWN);
        }
        for (int c : Check.outside(NONE, 1)) {
            due("step(0, " + c + ")", law.step(0, c), UNKNOWN);
        }
        due("the last person to the last cell", law.step(1, 1), 0);
        due("the first person to the first cell", law.step(0, 0), 0);
        due("the first person to the bank", law.step(0, NONE), 0);
        Law full = Law.on("r6 3 30;" + "p1 1;".repeat(6));
        due("person 5 to cell 17", full.step(5, 17), 0);
        due("person 5 to cell 18", full.step(5, 18), UNKNOWN);
        due("person 6 to cell 17", full.step(6, 17), UNKNOWN);
        due("without a river", new Law().step(0, NONE), UNKNOWN);
        due("without persons", Law.on("r2 1 1;").step(0, NONE), UNKNOWN);
    }

    private static void breaksAbove() {
        about("Then CELLS BREAK: all that have INCHES and a LOAD above what they BEAR, at once: they are HOLES; who is on one is DROWNED (no LOAD any more)");
        Law holds = Law.on("r3 1 5;t20;p0 100;");
        due("as much as it bears", holds.step(0, 0), 0);
        due("it holds", holds.told(7), 0);
        Law breaks = Law.on("r3 1 5;t20;p0 101;");
        due("one more than it bears", breaks.step(0, 0), 1);
        due("a hole", breaks.told(7), 1);
        due("no inches", breaks.cell(0, 0), 0);
        due("drowned", breaks.person(0, 2), DROWNED);
        due("no load any more", breaks.cell(0, 2), 0);
        due("no load any more beside it", breaks.cell(1, 2), 0);
        due("nobody on it", breaks.cell(0, 3), 0);
        Law half = Law.on("r3 1 10;t40,10,40;p0 199;p0 2;p0 1;");
        due("half of 199 is 99", half.step(0, 0), 0);
        due("half of 201 is 100, as much as it bears", half.step(1, 0), 0);
        due("half of 202 is 101, one more than it bears", half.step(2, 0), 1);
        due("a hole beside them", half.told(7), 2);
        due("nobody drowned", half.told(10), 0);
        about("If any BROKE and the RIVER is nobody's, it is the town's of who did that STEP.");
        due("nobody's while none broke", holds.told(6), NONE);
        due("left's", breaks.told(6), 0);
    }

    private static void breaksAtOnce() {
        about("at once: they are HOLES");
        // 200 on cell 7 breaks it and, by half, 1, 8 and 13; cell 6 bears its half.
        Law law = Law.on("r6 3 10;t40,9,40,40,40,40,40,15,9,40,40,40,40,9,40,40,40,40;p0 200;p0 1;");
        due("beside it", law.step(0, 6), 0);
        due("onto it", law.step(0, 7), 4);
        due("holes", law.told(7), 1 << 1 | 1 << 7 | 1 << 8 | 1 << 13);
        due("how many broke", law.told(11), 4);
        due("drowned", law.told(10), 1);
        about("How many BROKE is counted.");
        Law count = Law.on("r2 3 1;t2;p0 3;p0 3;p0 3;p1 2;");
        for (int p = 0; p < 3; p++) {
            due("one more", count.step(p, p * 2), 1);
            due("in all", count.told(11), p + 1);
        }
        due("none breaks", count.step(3, 1) + count.step(3, NONE), 0);
        due("no more are counted", count.told(11), 3);
        about("all that have INCHES");
        Law hole = Law.on("r2 1 30;t40,0;p0 200;");
        due("a hole does not break", hole.step(0, 0), 0);
        due("a hole does not break", hole.told(11), 0);
    }

    private static void tillNoneDoes() {
        about("then again, till none does.");
        for (int run = 0; run < 300; run++) {
            Random random = new Random(run);
            int cells = 6 + random.nextInt(2) * 6;
            Law law = Law.on("r6 " + cells / 6 + " 3;t9,30,14,40,22;c1,0,2;n14,7,12;p0 40;p1 60;p0 25;p1 33;p0 90;p1 7;");
            for (int k = 0; k < 14; k++) {
                int p = random.nextInt(6);
                int kind = random.nextInt(12);
                if (kind == 0) {
                    law.night(1 + random.nextInt(3));
                } else if (kind == 1) {
                    law.salt(p % 2, random.nextInt(cells), 1 + random.nextInt(9));
                } else {
                    walkOn(law, p, random);
                }
                dueNoneAbove(law, cells, "run " + run + ", " + k);
            }
        }
    }

    /** One step of a person, if the first way that chance finds can be gone. */
    private static void walkOn(Law law, int p, Random random) {
        int at = law.person(p, 2);
        int[] ways = {at + 1, at - 1, at + 6, at - 6};
        int c = at >= 0 ? ways[random.nextInt(4)] : p % 2 == 0 ? 0 : 5;
        law.step(p, c);
    }

    private static void dueNoneAbove(Law law, int cells, String where) {
        for (int c = 0; c < cells; c++) {
            if (law.cell(c, 0) == 0) {
                due(where + ": nobody stands in hole " + c, law.cell(c, 3), 0);
            } else {
                due(where + ": cell " + c + " holds", law.cell(c, 5) >= 10000 ? 1 : 0, 1);
            }
        }
    }

    private static void whoseRiver() {
        about("If any BROKE and the RIVER is nobody's, it is the town's of who did that STEP.");
        Law law = Law.on("r2 3 1;t2;p0 3;p1 3;p1 3;p0 1;");
        due("the right breaks", law.step(1, 1), 1);
        due("the right's", law.told(6), 1);
        due("the left breaks", law.step(0, 0), 1);
        due("still the right's", law.told(6), 1);
        due("whose it was", law.spring(), 1);
        due("nobody's", law.told(6), NONE);
        due("a step that breaks none", law.step(3, 2), 0);
        due("nobody's", law.told(6), NONE);
        due("salt by the left", law.salt(0, 4, 2), 1);
        due("the left's", law.told(6), 0);
        due("the right breaks", law.step(2, 3), 1);
        due("still the left's", law.told(6), 0);
    }

    // ---- night()

    private static void nightByCold() {
        about("A NIGHT with COLD above 0: each CELL (a HOLE, too) gets COLD less the CURRENT of its COLUMN INCHES more (0 at least), half of that (cut) where SNOW lies. With another COLD: as many INCHES fewer as COLD is below 0, and CURRENT; all SNOW goes.");
        for (int told = 0; told <= 20; told++) {
            for (int current = 0; current <= 9; current++) {
                Law law = Law.on("r2 2 1;t20,20,0,0;c" + current + ";n" + told + ";");
                law.snow(1, true);
                law.snow(3, true);
                due("night", law.night(1), 1);
                boolean isCold = told > 10;
                int more = Math.max(0, told - 10 - current);
                int fewer = 10 - told + current;
                String name = "cold " + (told - 10) + ", current " + current + ": ";
                due(name + "bare", law.cell(0, 0), isCold ? 20 + more : 20 - fewer);
                due(name + "snow", law.cell(1, 0), isCold ? 20 + more / 2 : 20 - fewer);
                due(name + "a bare hole", law.cell(2, 0), isCold ? more : 0);
                due(name + "a hole with snow", law.cell(3, 0), isCold ? more / 2 : 0);
                due(name + "snow left", law.told(8), isCold ? 10 : 0);
                due(name + "none broke", law.told(11), 0);
            }
        }
        about("the CURRENT of its COLUMN");
        Law columns = Law.on("r3 2 1;t5;c0,1,2;n13;");
        columns.night(1);
        for (int c = 0; c < 6; c++) {
            due("cell " + c, columns.cell(c, 0), 8 - c % 3);
        }
    }

    private static void inchesTop() {
        about("INCHES are 0 to 60.");
        Law law = Law.on("r2 1 1;t40;n20,19,11,11,20;");
        int[] wanted = {50, 59, 60, 60, 60, 60};
        for (int k = 0; k < wanted.length; k++) {
            due("night", law.night(1), k + 1);
            due("inches behind " + (k + 1), law.cell(0, 0), wanted[k]);
        }
        Law over = Law.on("r2 1 1;t40;n20,18,13,0;");
        int[] cut = {50, 58, 60, 50};
        for (int k = 0; k < cut.length; k++) {
            over.night(1);
            due("what is above 60 is lost: " + (k + 1), over.cell(1, 0), cut[k]);
        }
        Law snow = Law.on("r2 1 1;t39;n20;");
        snow.snow(0, true);
        snow.night(4);
        due("59 under snow", snow.cell(0, 0), 59);
        snow.night(1);
        due("60 under snow", snow.cell(0, 0), 60);
    }

    private static void inchesBottom() {
        about("INCHES are 0 to 60.");
        Law law = Law.on("r6 1 1;t0,1,2,3,4,5;n7,20;");
        law.night(1);
        int[] warm = {0, 0, 0, 0, 1, 2};
        for (int c = 0; c < 6; c++) {
            due("3 fewer, cell " + c, law.cell(c, 0), warm[c]);
        }
        due("holes", law.told(7), 15);
        due("what melts did not break", law.told(11), 0);
        law.night(1);
        for (int c = 0; c < 6; c++) {
            due("10 more from there, cell " + c, law.cell(c, 0), warm[c] + 10);
        }
        due("holes freeze", law.told(7), 0);
        Law most = Law.on("r2 1 1;t19,20;c9;n0;");
        most.night(1);
        due("19 fewer at most", most.cell(0, 0), 0);
        due("19 fewer at most", most.cell(1, 0), 1);
    }

    private static void nightBreaks() {
        about("Then CELLS BREAK (the RIVER stays whose it is, or nobody's)");
        Law holds = Law.on("r3 1 10;t8;n7;p0 50;");
        holds.step(0, 0);
        holds.night(1);
        due("50 on 50 holds", holds.told(7), 0);
        due("it lives", holds.person(0, 2), 0);
        Law breaks = Law.on("r3 1 10;t8;n7;p0 51;");
        breaks.step(0, 0);
        breaks.night(1);
        due("51 on 50 breaks", breaks.told(7), 1);
        due("it broke", breaks.told(11), 1);
        due("drowned", breaks.person(0, 2), DROWNED);
        due("nobody's", breaks.told(6), NONE);
        Law half = Law.on("r3 1 10;t40,8,40;n7;p0 101;p1 1;");
        half.step(0, 0);
        half.night(1);
        due("half of 101 on 50 holds", half.told(11), 0);
        half.undo();
        half.step(1, 2);
        half.night(1);
        due("half of 102 on 50 breaks", half.told(7), 2);
        due("nobody drowned", half.told(10), 0);
        Law whose = Law.on("r3 1 10;t8;n7;p0 60;");
        whose.salt(1, 2, 60);
        whose.step(0, 0);
        whose.night(1);
        due("broke by night", whose.told(11), 2);
        due("stays the right's", whose.told(6), 1);
        Law frozen = Law.on("r2 1 1;t40,0;n11;p0 40;p0 9;");
        frozen.step(0, 0);
        frozen.night(1);
        due("a hole that freezes too thin breaks again", frozen.told(7), 2);
        due("it broke", frozen.told(11), 1);
    }

    private static void nightDrowns() {
        about("who is on a CELL without INCHES is DROWNED.");
        Law one = Law.on("r2 1 1;t4;n7;p0 1;");
        one.step(0, 0);
        one.night(1);
        due("one inch is left", one.cell(0, 0), 1);
        due("it lives", one.person(0, 2), 0);
        Law none = Law.on("r2 1 5;t3,9;n7;p0 1;p0 2;p1 2;");
        none.step(0, 0);
        none.step(1, 0);
        none.step(2, 1);
        none.night(1);
        due("no inches", none.cell(0, 0), 0);
        due("all who are on it", none.told(10), 3);
        due("melted, not broken", none.told(11), 0);
        due("nobody's", none.told(6), NONE);
        // Behind the breaking, as the words stand: half of 200 still breaks cell 1, that bears 90 by then.
        Law order = Law.on("r3 1 30;t7,10,40;n3;p0 200;");
        order.step(0, 0);
        order.night(1);
        due("it weighs till CELLS BROKE", order.told(7), 3);
        due("one broke", order.told(11), 1);
    }

    private static void nightsCounted() {
        about("NIGHTS are counted.");
        String text = "r3 2 10;t8,3,20;c1,0;n14,7,12,0,19;";
        Law many = Law.on(text);
        Law single = Law.on(text);
        many.snow(4, true);
        single.snow(4, true);
        due("60 at once", many.night(60), 60);
        for (int k = 1; k <= 60; k++) {
            due("one by one", single.night(1), k);
        }
        for (int c = 0; c < 6; c++) {
            due("the same ice " + c, single.cell(c, 0), many.cell(c, 0));
        }
        due("told", many.told(5), 60);
        due("one call can be undone, and the snow", many.told(15), 2);
    }

    private static void nightBounds() {
        about("n NIGHTS (1 .. 60): NIGHTS. OUTSIDE, NOT: no RIVER; FULL: NIGHTS are above 9000.");
        Law law = Law.on("r2 1 1;");
        Law none = new Law();
        for (int n : Check.outside(1, 60)) {
            due("night(" + n + ")", law.night(n), OUTSIDE);
            due("night(" + n + ") without a river: the first refusal", none.night(n), OUTSIDE);
        }
        due("no nights yet", law.told(5), 0);
        due("1 is taken", law.night(1), 1);
        due("60 are taken", law.night(60), 61);
        due("59 are taken", law.night(59), 120);
        due("no river", none.night(1), NOT);
        due("no river", none.night(60), NOT);
        due("no nights", none.told(5), 0);
    }

    private static Law behind9000(String text) {
        Law law = Law.on(text);
        for (int k = 1; k <= 150; k++) {
            due("night", law.night(60), k * 60);
        }
        return law;
    }

    private static void nineThousand() {
        about("FULL: NIGHTS are above 9000.");
        // Night 9000 has the sixth of seven, 9000 being 5 left over by 7.
        Law law = behind9000("r2 1 1;t5;c2;n10,10,10,10,10,14,0;p0 1;");
        due("9000 nights", law.told(5), 9000);
        due("the cold of night 9000", law.cold(9000), 14);
        due("tried from 9000", law.then(0, 1), 2);
        due("9000 is not above", law.night(1), 9001);
        due("night 9000's cold came", law.cell(0, 0), 2);
        due("9001 is above", law.night(1), FULL);
        due("9001 is above", law.night(60), FULL);
        due("9001 is above", law.drift(1), FULL);
        due("9001 is above", law.drift(60), FULL);
        due("out of bounds first", law.night(0), OUTSIDE);
        due("out of bounds first", law.night(61), OUTSIDE);
        due("out of bounds first", law.drift(0), OUTSIDE);
        due("out of bounds first", law.drift(61), OUTSIDE);
        due("nothing passed", law.told(5), 9001);
        due("all else goes on", law.snow(0, true), 0);
        due("all else goes on", law.spring(), NONE);
        law.undo();
        law.undo();
        due("back at 9000", law.undo(), 13);
        due("9000 nights", law.told(5), 9000);
        due("60 from 9000", law.night(60), 9060);
        due("9060 is above", law.night(1), FULL);
        due("tried from 9060", law.then(0, 60) >= 0 ? 1 : 0, 1);
        law.undo();
        due("drift from 9000", law.drift(60) >= 0 ? 1 : 0, 1);
        due("9060 nights", law.told(5), 9060);
        due("9060 is above", law.drift(1), FULL);
        law.undo();
        due("drift from 9000", law.drift(1) >= 0 ? 1 : 0, 1);
        due("9001 is above", law.drift(1), FULL);
        due("nights go on behind an earlier river", law.read("r2 1 1;"), 2);
        due("night 0 again", law.night(1), 1);
    }

    // ---- salt()

    private static void saltInches() {
        about("a CELL has n INCHES less (0 at least)");
        for (int n = 1; n <= 60; n++) {
            Law law = Law.on("r2 1 1;t30;n20;");
            due("salt of " + n, law.salt(0, 0, n), n >= 30 ? 1 : 0);
            due("inches behind " + n, law.cell(0, 0), Math.max(0, 30 - n));
            due("the other cell", law.cell(1, 0), 30);
            law.night(1);
            due("from there", law.cell(0, 0), Math.max(0, 30 - n) + 10);
        }
        Law thick = Law.on("r2 1 1;t40;n20;");
        thick.night(2);
        due("59 of 60", thick.salt(0, 0, 59), 0);
        due("one is left", thick.cell(0, 0), 1);
        due("60 of 60", thick.salt(0, 1, 60), 1);
        due("none is left", thick.cell(1, 0), 0);
    }

    private static void saltBreaks() {
        about("who is on it, if it has none, is DROWNED (it BROKE, too); then CELLS BREAK, as by a STEP of town b.");
        Law law = Law.on("r3 1 10;t8;p0 50;");
        law.step(0, 0);
        due("50 on 50 holds", law.salt(1, 0, 3), 0);
        due("it lives", law.person(0, 2), 0);
        due("nobody's", law.told(6), NONE);
        due("50 on 40 breaks", law.salt(1, 0, 1), 1);
        due("drowned", law.person(0, 2), DROWNED);
        due("the right's", law.told(6), 1);
        due("counted", law.told(11), 1);
        Law none = Law.on("r3 1 1;t5,5,5;p0 1;p0 2;p0 1;");
        none.step(0, 0);
        none.step(1, 0);
        none.step(1, 1);
        due("1 and half of 2 are above what one inch bears", none.salt(0, 0, 4), 1);
        due("only who was on it", none.told(10), 1);
        due("the left's", none.told(6), 0);
        due("who is on it, as it has none", none.salt(1, 1, 5), 1);
        due("drowned", none.told(10), 3);
        due("still the left's", none.told(6), 0);
        due("nobody on it: it broke, too", none.salt(1, 2, 60), 1);
        due("counted", none.told(11), 3);
        // Who drowned in the salted cell weighs no more, so cell 1 stays.
        Law weigh = Law.on("r3 1 10;t20,8,20;p0 160;");
        weigh.step(0, 0);
        due("drowned first, then CELLS BREAK", weigh.salt(0, 0, 60), 1);
        due("cell 1 stays", weigh.told(7), 1);
        Law beside = Law.on("r3 1 10;t20,8,20;p0 160;");
        beside.step(0, 0);
        due("the salted cell bears less than half of what is beside", beside.salt(1, 1, 1), 1);
        due("nobody drowned", beside.told(10), 0);
    }

    private static void saltBounds() {
        about("SALT by a town b (0, 1), of n (1 .. 60): how many CELLS BROKE by it. UNKNOWN, OUTSIDE, NOT: it is a HOLE.");
        Law law = Law.on("r2 1 1;t30,0;");
        for (int c : Check.outside(0, 1)) {
            due("salt(0, " + c + ", 1)", law.salt(0, c, 1), UNKNOWN);
            due("salt(2, " + c + ", 0): the first refusal", law.salt(2, c, 0), UNKNOWN);
        }
        for (int b : Check.outside(0, 1)) {
            due("salt(" + b + ", 0, 1)", law.salt(b, 0, 1), OUTSIDE);
            due("salt(" + b + ", 1, 1): the first refusal", law.salt(b, 1, 1), OUTSIDE);
        }
        for (int n : Check.outside(1, 60)) {
            due("salt(0, 0, " + n + ")", law.salt(0, 0, n), OUTSIDE);
            due("salt(0, 1, " + n + "): the first refusal", law.salt(0, 1, n), OUTSIDE);
        }
        due("a hole", law.salt(0, 1, 1), NOT);
        due("a hole", law.salt(1, 1, 60), NOT);
        due("nothing of it is done", law.told(15), 0);
        due("by the left", law.salt(0, 0, 1), 0);
        due("by the right", law.salt(1, 0, 28), 0);
        due("one inch is no hole", law.salt(1, 0, 1), 1);
        due("a hole by now", law.salt(1, 0, 1), NOT);
        due("60 on the last", Law.on("r6 3 1;t1;").salt(1, 17, 60), 1);
        due("one behind the last", Law.on("r6 3 1;t1;").salt(1, 18, 60), UNKNOWN);
        due("without a river", new Law().salt(2, 0, 0), UNKNOWN);
    }

    // ---- snow(), spring()

    private static void snowBounds() {
        about("SNOW lies (is), or not: 1 it lay, 0 not. UNKNOWN.");
        Law law = Law.on("r6 3 1;t1,0;");
        for (int c : Check.outside(0, 17)) {
            due("snow(" + c + ", true)", law.snow(c, true), UNKNOWN);
            due("snow(" + c + ", false)", law.snow(c, false), UNKNOWN);
        }
        due("none lies", law.told(8), 0);
        due("none is done", law.told(15), 0);
        for (int c = 0; c < 18; c++) {
            due("it lay not", law.snow(c, true), 0);
            due("it lies", law.told(8), (2 << c) - 1);
        }
        for (int c = 0; c < 18; c++) {
            due("it lay", law.snow(c, true), 1);
        }
        due("it lies on all, holes too", law.told(8), 262143);
        due("it lay", law.snow(17, false), 1);
        due("all but the last", law.told(8), 131071);
        due("it lay not", law.snow(17, false), 0);
        due("all but the last", law.told(8), 131071);
        due("without a river", new Law().snow(0, true), UNKNOWN);
    }

    private static void spring() {
        about("SPRING: the RIVER is nobody's, all who are not DROWNED are on their banks, HOLES stay.");
        Law law = Law.on("r3 2 10;t8;n13;" + "p0 20;p1 20;p0 20;p1 20;p0 20;p1 20;");
        law.night(1);
        for (int p = 0; p < 6; p++) {
            law.step(p, p % 2 == 0 ? 0 : 2);
            law.step(p, p % 2 == 0 ? 3 : 5);
        }
        law.step(5, 2);
        law.salt(0, 2, 60);
        law.snow(1, true);
        due("drowned", law.told(10), 32);
        due("whose it was", law.spring(), 0);
        due("nobody's", law.told(6), NONE);
        for (int p = 0; p < 5; p++) {
            due("on its bank: " + p, law.person(p, 2), NONE);
        }
        due("drowned stays", law.person(5, 2), DROWNED);
        due("holes stay", law.told(7), 4);
        due("inches stay", law.cell(0, 0), 11);
        due("snow stays", law.told(8), 2);
        due("nights stay", law.told(5), 1);
        due("what broke stays", law.told(11), 1);
        due("nobody weighs", law.cell(3, 2), 0);
        due("whose it was, nobody's", law.spring(), NONE);
        about("SPRING: whose it was. NOT: no RIVER.");
        due("no river", new Law().spring(), NOT);
        Law gone = Law.on("r2 1 1;");
        gone.river();
        due("no river any more", gone.spring(), NOT);
    }

    // ---- drift()

    private static void driftBounds() {
        about("n NIGHTS (1 .. 60) BY DRAWS: how many CELLS BROKE (in all). OUTSIDE, NOT: no RIVER; FULL: NIGHTS are above 9000.");
        Law law = Law.on("r2 1 1;p0 1;");
        Law none = new Law();
        for (int n : Check.outside(1, 60)) {
            due("drift(" + n + ")", law.drift(n), OUTSIDE);
            due("drift(" + n + ") without a river: the first refusal", none.drift(n), OUTSIDE);
        }
        due("no draw was made", law.seed(0), 0);
        due("1 is taken", law.drift(1), 0);
        due("one night", law.told(5), 1);
        due("60 are taken", law.drift(60), 0);
        due("61 nights", law.told(5), 61);
        due("no river", none.drift(1), NOT);
        due("no river", none.drift(60), NOT);
        due("no draw was made", none.seed(0), 0);
        Law all = Law.on("r2 1 1;t1;p0 200;");
        due("broke ahead of it", all.salt(0, 0, 1) + all.salt(0, 1, 1), 2);
        due("in all", all.drift(1), 2);
        due("in all", all.told(11), 2);
    }

    private static void draws() {
        about("each DRAW it becomes it times 1103515245 and 12345, left over by 2 to the 31; the DRAW of n is it / 65536, left over by n");
        int[] seeds = {0, 1, 2147483647, 2147483646, 1073741824, 65535, 65536, 5, 123456789, 1999999999};
        for (int cells = 1; cells <= 3; cells++) {
            for (int persons = 0; persons <= 6; persons += 3) {
                for (int seed : seeds) {
                    dueDraws(seed, cells, persons);
                }
            }
        }
        about("THE SEED (0 at first");
        Law first = Law.on("r2 1 1;");
        first.drift(1);
        due("12345, on 0 of 4 a draw of cells", first.seed(0), 1406932606);
    }

    /** One night by draws on thick ice: where the person stands, where snow lies, and the seed. */
    private static void dueDraws(int seed, int rows, int persons) {
        Law law = Law.on("r6 " + rows + " 30;t40;n11;" + "p0 1;p1 1;p0 1;p1 1;p0 1;p1 1;".substring(0, persons * 5));
        law.seed(seed);
        long now = seed;
        int p = NONE;
        int c = NONE;
        if (persons > 0) {
            now = Check.drawn(now);
            p = (int) (now / 65536 % persons);
            now = Check.drawn(now);
            c = (int) (now / 65536 % (6 * rows));
        }
        now = Check.drawn(now);
        int snow = 0;
        if (now / 65536 % 4 == 0) {
            now = Check.drawn(now);
            snow = 1 << now / 65536 % (6 * rows);
        }
        String name = "seed " + seed + ", rows " + rows + ", persons " + persons;
        due(name + ": none broke", law.drift(1), 0);
        for (int k = 0; k < persons; k++) {
            boolean goes = k == p && c % 6 == (k % 2 == 0 ? 0 : 5);
            due(name + ": person " + k, law.person(k, 2), goes ? c : NONE);
        }
        due(name + ": snow", law.told(8), snow);
        due(name + ": seed", law.seed(0), (int) now);
    }

    private static void drawsDone() {
        about("it does that STEP, if it can");
        // With one person the draws of persons are 0; the steps are done till it stands where a draw leads.
        Law law = Law.on("r2 1 30;t40,0;n10;p0 200;");
        for (int k = 0; k < 8; k++) {
            due("none broke", law.drift(7), 0);
        }
        due("never onto the hole, nor back to the bank", law.person(0, 2), 0);
        Law drowned = Law.on("r2 1 1;t1;n10;p0 2;");
        drowned.step(0, 0);
        drowned.seed(1);
        due("who is drowned stays so", drowned.drift(60), 1);
        due("who is drowned stays so", drowned.person(0, 2), DROWNED);
        long now = 1;
        for (int k = 0; k < 60; k++) {
            now = Check.drawn(Check.drawn(Check.drawn(now)));
            now = now / 65536 % 4 == 0 ? Check.drawn(now) : now;
        }
        due("the draws are made all the same", drowned.seed(0), (int) now);
        about("If any BROKE and the RIVER is nobody's, it is the town's of who did that STEP.");
        Law breaks = Law.on("r2 1 1;t1;n10;p1 2;");
        due("it breaks", breaks.drift(60), 1);
        due("by a step that was drawn", breaks.told(6), 1);
        about("a DRAW of 4: on 0 a DRAW of CELLS: SNOW lies there.");
        Law snow = Law.on("r2 1 1;n20;");
        snow.drift(60);
        due("snow lies on both by then", snow.told(8), 3);
        Law gone = Law.on("r2 1 1;n10;");
        gone.drift(60);
        due("snow goes the same night", gone.told(8), 0);
    }

    // ---- undo()

    private static void undoBounds() {
        about("(16 at most are kept, the oldest are lost)");
        for (int done = 0; done <= 40; done++) {
            Law law = Law.on("r2 1 30;t40;");
            for (int k = 1; k <= done; k++) {
                due("salt", law.salt(0, k % 2, 1), 0);
                due("how many can be undone behind " + k, law.told(15), Math.min(k, 16));
            }
            int kept = Math.min(done, 16);
            for (int k = kept - 1; k >= 0; k--) {
                due("undo to " + k + " of " + done, law.undo(), k);
            }
            due("none is left of " + done, law.undo(), NOT);
            due("none is left of " + done, law.undo(), NOT);
            due("none can be", law.told(15), 0);
            due("the oldest stay done", law.cell(0, 0) + law.cell(1, 0), 80 - (done - kept));
        }
        about("The latest is undone: how many more can be. NOT: none.");
        Law law = Law.on("r2 1 30;t40;");
        for (int round = 0; round < 12; round++) {
            for (int k = 0; k < 7; k++) {
                law.salt(0, 0, 1);
            }
            int had = law.told(15);
            int inches = law.cell(0, 0);
            for (int k = 1; k <= 5; k++) {
                due("undo", law.undo(), had - k);
                due("the latest", law.cell(0, 0), inches + k);
            }
        }
        due("none without a river", new Law().undo(), NOT);
    }

    private static void undoneEach() {
        about("the latest of night(), step(), salt(), snow(), spring(), drift() that was not refused");
        Law law = Law.on("r3 1 10;t8;n12,7;p0 60;p1 90;");
        law.step(0, 0);
        law.salt(1, 2, 60);
        law.snow(1, true);
        law.keep(0);
        for (int kind = 0; kind < 6; kind++) {
            doOne(law, kind);
            due("one can be undone", law.told(15), 1);
            due("undone: " + kind, law.undo(), 0);
            int[] whats = {5, 6, 7, 8, 10, 11, 15};
            int[] wanted = {0, 1, 4, 2, 0, 1, 0};
            for (int k = 0; k < whats.length; k++) {
                due("as ahead of " + kind + ": told(" + whats[k] + ")", law.told(whats[k]), wanted[k]);
            }
            due("inches", law.cell(0, 0), 8);
            due("inches", law.cell(1, 0), 8);
            due("where", law.person(0, 2), 0);
            due("where", law.person(1, 2), NONE);
        }
        due("a snow that lay already counts, too", law.snow(1, true), 1);
        due("a snow that lay already counts, too", law.told(15), 1);
        due("a spring of nothing counts, too", law.spring(), 1);
        due("a spring of nothing counts, too", law.told(15), 2);
        int[] refused = {law.night(0), law.step(0, 2), law.salt(0, 2, 1), law.snow(3, true), law.drift(61)};
        int[] wanted = {OUTSIDE, NOT, NOT, UNKNOWN, OUTSIDE};
        for (int k = 0; k < wanted.length; k++) {
            due("refused", refused[k], wanted[k]);
        }
        due("what was refused cannot be undone", law.told(15), 2);
    }

    private static void doOne(Law law, int kind) {
        switch (kind) {
            case 0 -> law.night(2);
            case 1 -> law.step(0, 1);
            case 2 -> law.salt(0, 0, 60);
            case 3 -> law.snow(1, false);
            case 4 -> law.spring();
            default -> law.drift(9);
        }
    }

    private static void notUndone() {
        about("all of section 2 is as ahead of it; THE SEED stays.");
        Law law = Law.on("r3 1 10;t8;n12;p0 60;");
        law.seed(5);
        law.drift(3);
        int seed = law.seed(0);
        law.seed(seed);
        law.see(4, true);
        law.write(0, 8);
        law.tell("r2");
        due("undone", law.undo(), 0);
        due("the seed stays", law.seed(0) - seed, 0);
        due("what is seen stays", law.told(13), 1);
        due("the book stays", law.told(14), 1);
        due("the text stays", law.told(4), 2);
        due("drift from the seed as it stays", law.drift(1), 0);
        due("not from the seed ahead of it", law.seed(seed) == seed ? 1 : 0, 0);
        due("seeing, writing, tearing cannot be undone", law.told(15), 1);
    }
}
