/** Promise by promise: ordinary inputs, the edges that the document names, and wrong inputs. */
public final class PromisesTest {
    private static final int NONE = IceLaw.NONE;
    private static final int UNKNOWN = IceLaw.UNKNOWN;
    private static final int OUTSIDE = IceLaw.OUTSIDE;
    private static final int NOT = IceLaw.NOT;
    private static final int FULL = IceLaw.FULL;
    private static final int DROWNED = -2;

    /** 3 columns, 2 rows, an inch bears 10; 8 inches everywhere; no current; nights without cold. */
    private static final String PLAIN = "r3 2 10;t8;p0 60;p1 80;";

    public static void main(String[] args) {
        newObject();
        feed();
        riverTexts();
        riverFaultOne();
        riverFaultTwo();
        riverFaultThree();
        riverResets();
        told();
        cell();
        person();
        cold();
        night();
        nightBreaksAndDrowns();
        step();
        stepBreaks();
        salt();
        snow();
        spring();
        drift();
        undo();
        then();
        when();
        noMore();
        over();
        fewest();
        leastSalt();
        lives();
        heard();
        game();
        tolls();
        thaw();
        see();
        who();
        ask();
        write();
        tear();
        judge();
        seed();
        keepAndGoBack();
        noRiver();
        Check.end("PromisesTest");
    }

    private static void due(String call, int got, int want) {
        Check.due(call, got, want);
    }

    private static void dueFault(String text, int number, int letter) {
        Law law = new Law();
        due("river of " + text, law.read(text), -10 - number);
        due("fault of " + text, law.fault(), letter);
    }

    private static String many(String part, int times) {
        return part.repeat(times);
    }

    // ---- the river

    private static void newObject() {
        Law law = new Law();
        for (int what = 0; what <= 15; what++) {
            due("new: told(" + what + ")", law.told(what), what == 6 || what == 12 ? NONE : 0);
        }
        due("new: fault", law.fault(), NONE);
        due("new: seed", law.seed(0), 0);
        due("new: no image", law.goBack(0), NOT);
        due("new: no image", law.goBack(1), NOT);
        due("NONE", IceLaw.NONE, -1);
        due("UNKNOWN", IceLaw.UNKNOWN, -1000000001);
        due("OUTSIDE", IceLaw.OUTSIDE, -1000000002);
        due("NOT", IceLaw.NOT, -1000000003);
        due("FULL", IceLaw.FULL, -1000000004);
    }

    private static void feed() {
        Law law = new Law();
        due("feed(-1)", law.feed(-1), OUTSIDE);
        due("feed(256)", law.feed(256), OUTSIDE);
        due("feed(0)", law.feed(0), 1);
        due("feed(255)", law.feed(255), 2);
        due("letters", law.told(4), 2);
        for (int k = 3; k <= 240; k++) {
            due("feed to " + k, law.feed(' '), k);
        }
        due("feed beyond", law.feed(' '), FULL);
        due("feed beyond, outside", law.feed(256), OUTSIDE);
        due("letters", law.told(4), 240);
        due("river of it", law.river(), -11);
        due("letters behind a fault", law.told(4), 0);
        due("feed again", law.feed('r'), 1);
        Law whole = Law.on("r6 3 30;" + many(" ", 232));
        due("240 letters", whole.told(0), 6);
    }

    private static void riverTexts() {
        Law law = new Law();
        due("river", law.read("r6 3 30;"), 18);
        due("river", law.read("r2 1 1;"), 2);
        due("untold thick", law.cell(1, 0), 10);
        due("untold current", law.cell(1, 4), 0);
        due("untold cold", law.cold(7), 10);
        due("fault", law.fault(), NONE);
        due("blanks", law.read("  r 004  2 010 ; t 3 , 4 ; p 0   200 ; "), 8);
        due("thick goes round", law.cell(5, 0), 4);
        due("an inch bears", law.told(2), 10);
        due("weight", law.person(0, 1), 200);
        due("any order", law.read("r2 1 1;p0 1;n3;c4;t5;p1 2;"), 2);
        due("persons", law.told(3), 2);
        due("most of all", law.read("r6 3 1;t" + many("1,", 17) + "2;c" + many("3,", 5) + "4;n"
            + many("5,", 11) + "6;" + many("p0 9;", 6)), 18);
        due("the 18th", law.cell(17, 0), 2);
        due("the sixth", law.cell(5, 4), 4);
        due("the 12th", law.cold(11), 6);
        due("the 13th is the first", law.cold(12), 5);
        due("persons", law.told(3), 6);
    }

    private static void riverFaultOne() {
        dueFault("x", 1, 0);
        dueFault("  t1;", 1, 2);
        dueFault(";", 1, 0);
        dueFault("5", 1, 0);
        dueFault("r", 1, 1);
        dueFault("r4", 1, 2);
        dueFault("r4 ", 1, 3);
        dueFault("r4 2 10", 1, 7);
        dueFault("r4,2 10;", 1, 2);
        dueFault("r4 2 10,", 1, 7);
        dueFault("r4 2 1 0;", 1, 7);
        dueFault("r4 2 10 1000;", 1, 8);
        dueFault("r4 2;", 1, 4);
        dueFault("r2 1 1;;", 1, 7);
        dueFault("r2 1 1;x", 1, 7);
        dueFault("r2 1 1;\t", 1, 7);
        dueFault("r2 1 1;t;", 1, 8);
        dueFault("r2 1 1;t1,;", 1, 10);
        dueFault("r2 1 1;t1 2;", 1, 10);
        dueFault("r2 1 1;t1 999;", 1, 10);
        dueFault("r2 1 1;t1 t", 1, 10);
        dueFault("r2 1 1;t1,", 1, 10);
        dueFault("r2 1 1;p1;", 1, 9);
        dueFault("r2 1 1;p1,1;", 1, 9);
        dueFault("r2 1 1;p", 1, 8);
        dueFault("r2 1 1;t-1;", 1, 8);
        dueFault("r2 1 1;t" + many("1,", 18) + "1;", 1, 43);
        dueFault("r2 1 1;t" + many("1,", 17) + "1 ,1;", 1, 44);
        dueFault("r2 1 1;c" + many("1,", 6) + "1;", 1, 19);
        dueFault("r2 1 1;n" + many("1,", 12) + "1;", 1, 31);
        dueFault("r2 1 1;R", 1, 7);
    }

    private static void riverFaultTwo() {
        dueFault("r1 1 1;", 2, 1);
        dueFault("r7 1 1;", 2, 1);
        dueFault("r1", 2, 1);
        dueFault("r42 10;", 2, 1);
        dueFault("r0002 1 1;", 2, 1);
        dueFault("r2 1 1;t0010;", 2, 8);
        dueFault("r2 1 1;p0 0100;", 2, 10);
        dueFault("r 12345", 2, 2);
        dueFault("r99999999999999999999x", 2, 1);
        dueFault("r2 0 1;", 2, 3);
        dueFault("r2 4 1;", 2, 3);
        dueFault("r2 1 0;", 2, 5);
        dueFault("r2 1 31;", 2, 5);
        dueFault("r2 1 1;t41;", 2, 8);
        dueFault("r2 1 1;t40,41;", 2, 11);
        dueFault("r2 1 1;c10;", 2, 8);
        dueFault("r2 1 1;n21x", 2, 8);
        dueFault("r2 1 1;p2 1;", 2, 8);
        dueFault("r2 1 1;p070;", 2, 8);
        dueFault("r2 1 1;p0 0;", 2, 10);
        dueFault("r2 1 1;p0 201;", 2, 10);
        due("bounds", new Law().read("r2 1 1;t0,40;c0,9;n0,20;p0 1;p1 200;"), 2);
    }

    private static void riverFaultThree() {
        dueFault("r2 1 1;r", 3, 7);
        dueFault("r2 1 1; r2 1 1;", 3, 8);
        dueFault("r2 1 1;t1;tx", 3, 10);
        dueFault("r2 1 1;c1;p0 1;c", 3, 15);
        dueFault("r2 1 1;n1;n1;", 3, 10);
        dueFault("r2 1 1;" + many("p0 1;", 6) + "p", 3, 37);
    }

    private static void riverResets() {
        Law law = Law.on(PLAIN);
        law.night(2);
        law.snow(0, true);
        law.step(0, 0);
        law.see(3, true);
        law.write(0, 3);
        law.seed(77);
        law.keep(1);
        law.salt(0, 3, 60);
        due("a fault", law.read("r9"), -12);
        due("a fault leaves", law.told(5), 2);
        due("a fault leaves", law.told(15), 1);
        due("a fault leaves", law.told(13) + law.told(14), 2);
        due("a fault leaves", law.person(0, 2), 0);
        due("a fault leaves", law.told(6), 0);
        due("fault", law.fault(), 1);
        law.tell(PLAIN);
        due("letters", law.told(4), PLAIN.length());
        due("river", law.river(), 6);
        int[] asked = {4, 5, 7, 8, 10, 11, 13, 14, 15};
        for (int what : asked) {
            due("again: told(" + what + ")", law.told(what), 0);
        }
        due("nobody's", law.told(6), NONE);
        due("on the bank", law.person(0, 2), NONE);
        due("image gone", law.goBack(1), NOT);
        due("fault", law.fault(), NONE);
        due("the seed stays", law.seed(1), 77);
        due("an empty text", law.river(), 0);
        due("no river", law.told(0), 0);
        due("no persons", law.person(0, 0), UNKNOWN);
        due("the seed stays", law.seed(1), 1);
    }

    private static void told() {
        Law law = Law.on("r3 2 10;t8,0,8,8,8,8;n12;p0 50;p0 1;p1 80;");
        due("columns", law.told(0), 3);
        due("rows", law.told(1), 2);
        due("an inch", law.told(2), 10);
        due("persons", law.told(3), 3);
        due("nobody's", law.told(6), NONE);
        due("holes", law.told(7), 2);
        due("first of like ones", law.told(12), 0);
        law.snow(2, true);
        law.snow(5, true);
        due("snow", law.told(8), 36);
        due("two steps", law.step(0, 0) + law.step(1, 3), 0);
        // 0: 50 + 0 = 50 of 80; 3: 1 + 25 = 26; 4: 0 (cut of 1 / 2)
        due("knock", law.told(9), 0);
        due("first", law.told(12), 0);
        due("can be undone", law.told(15), 4);
        // 80 on 2, 5 has 40: of 80 each
        due("step", law.step(2, 2), 0);
        due("knock at what it bears", law.told(9), 4);
        due("first", law.told(12), 2);
        due("night", law.night(1), 1);
        // 2, 5 have snow: 1 inch more; 2 bears 90
        due("cell 2", law.cell(2, 0), 9);
        due("cell 0", law.cell(0, 0), 10);
        // The hole has 2 inches by now, and half of 130 beside it.
        due("broke by night", law.told(11), 1);
        due("knock", law.told(9), 4);
        due("nights", law.told(5), 1);
        due("salt", law.salt(1, 2, 2), 1);
        due("whose", law.told(6), 1);
        due("drowned", law.told(10), 4);
        due("broke", law.told(11), 2);
        due("holes", law.told(7), 6);
        due("told(-1)", law.told(-1), OUTSIDE);
        due("told(16)", law.told(16), OUTSIDE);
        Law holes = Law.on("r2 1 1;t0;");
        due("first of holes", holes.told(12), NONE);
    }

    private static void cell() {
        Law law = Law.on("r3 3 10;t8;c1,2;p0 31;p0 33;p1 75;p1 1;");
        law.step(0, 0);
        law.step(1, 0);
        law.step(2, 2);
        due("inches", law.cell(0, 0), 8);
        due("bears", law.cell(0, 1), 80);
        due("load on", law.cell(0, 2), 64);
        due("half of all together, cut", law.cell(1, 2), 69);
        due("load of two rows", law.cell(3, 2), 32);
        due("load of the other corner", law.cell(5, 2), 37);
        due("not across", law.cell(4, 2), 0);
        due("far", law.cell(6, 2), 0);
        due("who", law.cell(0, 3), 3);
        due("who", law.cell(2, 3), 4);
        due("who", law.cell(1, 3), 0);
        due("current goes round", law.cell(2, 4), 1);
        due("current", law.cell(4, 4), 2);
        due("spare", law.cell(0, 5), 10016);
        law.salt(0, 3, 60);
        due("spare of a hole", law.cell(3, 5), 9968);
        due("cell(-1)", law.cell(-1, 0), UNKNOWN);
        due("cell(9)", law.cell(9, 9), UNKNOWN);
        due("cell(0, -1)", law.cell(0, -1), OUTSIDE);
        due("cell(0, 6)", law.cell(0, 6), OUTSIDE);
    }

    private static void person() {
        Law law = Law.on(PLAIN);
        due("town", law.person(0, 0), 0);
        due("town", law.person(1, 0), 1);
        due("weight", law.person(1, 1), 80);
        due("bank", law.person(1, 2), NONE);
        law.step(1, 5);
        due("on a cell", law.person(1, 2), 5);
        law.salt(0, 5, 8);
        due("drowned", law.person(1, 2), DROWNED);
        due("person(2)", law.person(2, 0), UNKNOWN);
        due("person(-1)", law.person(-1, 7), UNKNOWN);
        due("person(0, 3)", law.person(0, 3), OUTSIDE);
        due("person(0, -1)", law.person(0, -1), OUTSIDE);
    }

    private static void cold() {
        Law law = Law.on("r2 1 1;n0,20,7;");
        due("cold", law.cold(0), 0);
        due("cold", law.cold(4), 20);
        due("cold", law.cold(9999), 0);
        due("cold(-1)", law.cold(-1), OUTSIDE);
        due("cold(10000)", law.cold(10000), OUTSIDE);
        due("no river, outside", new Law().cold(10000), OUTSIDE);
        due("no river", new Law().cold(0), NOT);
    }

    // ---- what is done

    private static void night() {
        Law law = Law.on("r3 1 10;t8,0,39;c0,3,9;n15,10,7,20;");
        law.snow(0, true);
        law.snow(1, true);
        due("night", law.night(1), 1);
        due("half under snow", law.cell(0, 0), 10);
        due("a hole freezes", law.cell(1, 0), 1);
        due("current above cold", law.cell(2, 0), 39);
        due("snow stays", law.told(8), 3);
        due("night without cold", law.night(1), 2);
        due("no current", law.cell(0, 0), 10);
        due("current at 0", law.cell(1, 0), 0);
        due("current at 0", law.cell(2, 0), 30);
        due("snow goes", law.told(8), 0);
        due("warm night", law.night(1), 3);
        due("warm", law.cell(0, 0), 7);
        due("0 at least", law.cell(1, 0), 0);
        due("warm and current", law.cell(2, 0), 18);
        due("nothing broke", law.told(11), 0);
        due("60 nights", law.night(60), 63);
        due("60 at most, less 3", law.cell(0, 0), 57);
        due("64 nights", law.night(1), 64);
        due("60 at most", law.cell(0, 0), 60);
        due("undone", law.undo(), 6);
        due("night(0)", law.night(0), OUTSIDE);
        due("night(61)", law.night(61), OUTSIDE);
        for (int k = 0; k < 149; k++) {
            law.night(60);
        }
        due("nights", law.told(5), 9003);
        due("full", law.night(1), FULL);
        due("full, outside", law.night(0), OUTSIDE);
        due("full drift", law.drift(1), FULL);
        law.undo();
        due("9000 is not above", law.night(57), 9000);
        due("the last", law.night(60), 9060);
        law.undo();
        law.night(1);
        due("9001 is above", law.night(1), FULL);
        due("no river, outside", new Law().night(61), OUTSIDE);
        due("no river", new Law().night(1), NOT);
    }

    private static void nightBreaksAndDrowns() {
        // The night takes 3: 5 inches bear 50, 60 are on cell 0.
        Law law = Law.on("r3 1 10;t8;n7;p0 60;");
        law.step(0, 0);
        due("night", law.night(1), 1);
        due("broke", law.told(11), 1);
        due("drowned", law.told(10), 1);
        due("the river stays nobody's", law.told(6), NONE);
        Law least = Law.on("r2 1 10;t8;c0,1;n11,10;");
        least.snow(0, true);
        due("the least cold", least.night(1), 1);
        due("half of 1, cut", least.cell(0, 0), 8);
        due("less the current", least.cell(1, 0), 8);
        due("snow stays", least.told(8), 1);
        due("no cold at all", least.night(1), 2);
        due("snow goes at 0", least.told(8), 0);
        due("current", least.cell(1, 0), 7);
        // Melted, not broken: 0 inches, and who is there drowns.
        Law melted = Law.on("r3 1 30;t2,9,9;n8;p0 60;");
        melted.step(0, 0);
        melted.night(1);
        due("melted", melted.told(7), 1);
        due("melted is not broken", melted.told(11), 0);
        due("drowned all the same", melted.told(10), 1);
        // Cell 0 melts under 200; cell 1 bears 90 by then, and breaks by the half, 100, that still weighs.
        Law both = Law.on("r3 1 30;t7,10,40;c0;n3;p0 200;");
        both.step(0, 0);
        due("broke", both.told(11), 0);
        both.night(1);
        due("both are holes", both.told(7), 3);
        due("one broke", both.told(11), 1);
    }

    private static void step() {
        Law law = Law.on("r3 2 30;t9,9,9,9,9,0;p0 20;p1 30;");
        due("across from the bank", law.step(0, 1), NOT);
        due("to the other bank", law.step(0, 2), NOT);
        due("the bank itself", law.step(0, NONE), NOT);
        due("onto a hole", law.step(1, 5), NOT);
        due("refused", law.told(15), 0);
        due("from the bank", law.step(0, 3), 0);
        due("to itself", law.step(0, 3), NOT);
        due("aslant", law.step(0, 1), NOT);
        due("not over the edge", law.step(0, 2), NOT);
        due("up", law.step(0, 0), 0);
        due("right", law.step(0, 1), 0);
        due("no bank there", law.step(0, NONE), NOT);
        due("right", law.step(0, 2), 0);
        due("not the other bank", law.step(0, NONE), NOT);
        due("down on a hole", law.step(0, 5), NOT);
        due("left", law.step(0, 1), 0);
        due("down", law.step(0, 4), 0);
        due("left", law.step(0, 3), 0);
        due("back", law.step(0, NONE), 0);
        due("back", law.person(0, 2), NONE);
        due("right town", law.step(1, 2), 0);
        due("right town back", law.step(1, NONE), 0);
        due("no person", law.step(2, 0), UNKNOWN);
        due("no person", law.step(-1, 0), UNKNOWN);
        due("no cell", law.step(0, 6), UNKNOWN);
        due("no cell", law.step(0, -2), UNKNOWN);
        law.step(1, 2);
        law.salt(0, 2, 60);
        due("drowned", law.step(1, 2), NOT);
        due("drowned to the bank", law.step(1, NONE), NOT);
    }

    private static void stepBreaks() {
        // 100 on cell 0: it bears 99; 1 and 3 have 50 of 45, 60.
        Law law = Law.on("r3 2 3;t33,15,33,20,33,33;p0 100;p1 50;p1 40;");
        due("two at once", law.step(0, 0), 2);
        due("holes", law.told(7), 3);
        due("drowned", law.told(10), 1);
        due("left's", law.told(6), 0);
        due("what it bears", law.step(1, 2), 0);
        due("one more by its half", law.step(2, 5), 0);
        due("on it", law.cell(2, 2), 70);
        law.step(2, 2);
        due("90 of 99", law.cell(2, 2), 90);
        due("whose stays", law.told(6), 0);
        due("spring", law.spring(), 0);
        due("salt to the brink", law.salt(1, 2, 60), 1);
        due("right's now", law.told(6), 1);
        // One hole makes another only if who drowned no longer weighs.
        Law chain = Law.on("r2 2 10;t10,10,5,9;p0 60;p0 60;p0 61;");
        due("60", chain.step(0, 0), 0);
        due("60 more: 120 of 100, 0 breaks, 1 has 60 of 100, 2 has 60 of 50", chain.step(1, 0), 2);
        due("holes", chain.told(7), 5);
        due("no load any more", chain.cell(1, 2), 0);
        // The half of a town's two breaks what neither breaks alone; the breaker lives.
        Law half = Law.on("r3 1 10;t20,5,20;p0 60;p1 60;");
        due("left", half.step(0, 0), 0);
        due("right breaks the middle", half.step(1, 2), 1);
        due("right's", half.told(6), 1);
        due("nobody drowned", half.told(10), 0);
    }

    private static void salt() {
        Law law = Law.on(PLAIN);
        law.step(1, 5);
        due("salt", law.salt(0, 4, 3), 0);
        due("inches less", law.cell(4, 0), 5);
        due("nobody's", law.told(6), NONE);
        due("no cell, outside", law.salt(2, 6, 0), UNKNOWN);
        due("no town", law.salt(2, 0, 1), OUTSIDE);
        due("no town", law.salt(-1, 0, 1), OUTSIDE);
        due("no salt", law.salt(0, 0, 0), OUTSIDE);
        due("much salt", law.salt(0, 0, 61), OUTSIDE);
        due("refused", law.told(15), 2);
        due("a neighbour's weight breaks it", law.salt(1, 4, 2), 1);
        due("right's", law.told(6), 1);
        due("a hole", law.salt(0, 4, 1), NOT);
        due("a hole, outside", law.salt(0, 4, 0), OUTSIDE);
        due("under the feet", law.salt(0, 5, 1), 1);
        due("drowned", law.told(10), 2);
        due("an empty cell to nothing broke, too", law.salt(0, 0, 60), 1);
        due("broke", law.told(11), 3);
        due("no more load", law.cell(2, 2), 0);
        // Who drowns in the salted cell weighs no more: cell 1 stays.
        Law weigh = Law.on("r3 1 10;t20,8,20;p0 160;");
        weigh.step(0, 0);
        due("only the one", weigh.salt(1, 0, 60), 1);
        Law others = Law.on("r3 1 10;t20,8,20;p0 160;");
        others.step(0, 0);
        due("the cell breaks by its load", others.salt(1, 0, 5), 1);
        due("drowned", others.told(10), 1);
    }

    private static void snow() {
        Law law = Law.on(PLAIN);
        due("snow", law.snow(5, true), 0);
        due("again", law.snow(5, true), 1);
        due("lies", law.told(8), 32);
        due("off", law.snow(5, false), 1);
        due("off again", law.snow(5, false), 0);
        due("none", law.told(8), 0);
        due("each can be undone", law.told(15), 4);
        due("no cell", law.snow(6, true), UNKNOWN);
        due("no cell", law.snow(-1, false), UNKNOWN);
        law.salt(0, 2, 60);
        due("on a hole", law.snow(2, true), 0);
        due("on a hole", law.told(8), 4);
    }

    private static void spring() {
        Law law = Law.on(PLAIN);
        due("nobody's", law.spring(), NONE);
        law.step(0, 0);
        law.step(1, 2);
        law.snow(1, true);
        law.night(1);
        law.salt(1, 2, 60);
        due("right's", law.spring(), 1);
        due("nobody's", law.told(6), NONE);
        due("on the bank", law.person(0, 2), NONE);
        due("drowned stays", law.person(1, 2), DROWNED);
        due("holes stay", law.told(7), 4);
        due("nights stay", law.told(5), 1);
        due("broke stays", law.told(11), 1);
        law.snow(1, true);
        law.spring();
        due("snow stays", law.told(8), 2);
        due("no river", new Law().spring(), NOT);
    }

    private static void drift() {
        // The seed's draws: seed 0 becomes 12345, 1406932606, 654583775, 1449466924 ..
        Law law = Law.on("r2 1 30;t5;n12;");
        due("no persons: one draw of four a night", law.drift(1), 0);
        // 12345 / 65536 is 0: snow; 1406932606 / 65536 is 21468: cell 0. Then a night: 5 + 1, 5 + 2.
        due("snow by draw", law.told(8), 1);
        due("half under it", law.cell(0, 0), 6);
        due("beside it", law.cell(1, 0), 7);
        due("seed", law.seed(12345), 1406932606);
        // 1406932606: 21468 of one person: 0; 654583775: 9988 of 2: 0; 1449466924: 22117 of 4: 1, no snow.
        Law one = Law.on("r2 1 30;t5;n12;p0 149;");
        one.seed(12345);
        due("a step by draw", one.drift(1), 0);
        due("on cell 0", one.person(0, 2), 0);
        due("no snow", one.told(8), 0);
        due("seed", one.seed(0), 1449466924);
        // 151 of 150: it breaks at the step, left's; told in all.
        Law broke = Law.on("r2 1 30;t5;n12;p0 151;");
        broke.salt(1, 1, 60);
        broke.seed(12345);
        due("in all", broke.drift(1), 2);
        due("drowned", broke.told(10), 1);
        due("as much in all", broke.drift(60), 2);
        due("nights", broke.told(5), 61);
        due("drift(0)", broke.drift(0), OUTSIDE);
        due("drift(61)", broke.drift(61), OUTSIDE);
        due("one undo each", broke.undo(), 2);
        due("no river, outside", new Law().drift(0), OUTSIDE);
        due("no river", new Law().drift(60), NOT);
    }

    private static void undo() {
        Law law = Law.on("r3 1 10;t8;n12,7;p0 60;p1 90;");
        due("none", law.undo(), NOT);
        law.snow(1, true);
        law.step(0, 0);
        law.night(1);
        law.step(1, 2);
        law.salt(0, 1, 60);
        law.spring();
        law.drift(2);
        int after = law.seed(9);
        law.seed(after);
        due("drift undone", law.undo(), 6);
        due("the seed stays", law.seed(after), after);
        due("nights", law.told(5), 1);
        due("spring undone", law.undo(), 5);
        due("whose", law.told(6), 0);
        due("where", law.person(0, 2), 0);
        due("salt undone", law.undo(), 4);
        due("inches", law.cell(1, 0), 9);
        due("broke", law.told(11), 0);
        due("whose", law.told(6), NONE);
        due("step undone", law.undo(), 3);
        due("where", law.person(1, 2), NONE);
        due("night undone", law.undo(), 2);
        due("nights", law.told(5), 0);
        due("inches", law.cell(0, 0), 8);
        due("step undone", law.undo(), 1);
        due("snow undone", law.undo(), 0);
        due("snow", law.told(8), 0);
        due("none", law.undo(), NOT);
        for (int k = 0; k < 20; k++) {
            law.night(1);
        }
        due("16 are kept", law.told(15), 16);
        for (int k = 15; k >= 0; k--) {
            due("undo to " + k, law.undo(), k);
        }
        due("the oldest are lost", law.told(5), 4);
        due("none", law.undo(), NOT);
        law.night(1);
        due("a refused one is none", law.night(0), OUTSIDE);
        due("one", law.undo(), 0);
        Law drowned = Law.on(PLAIN);
        drowned.step(0, 0);
        drowned.salt(0, 0, 60);
        drowned.undo();
        due("not drowned any more", drowned.person(0, 2), 0);
    }

    // ---- tried

    private static void then() {
        Law law = Law.on("r3 1 10;t8;c0,1,2;n13,7,15;p0 60;");
        due("now", law.then(0, 0), 8);
        due("one", law.then(0, 1), 11);
        due("two", law.then(0, 2), 8);
        due("current", law.then(1, 3), 10);
        law.snow(1, true);
        due("snow", law.then(1, 1), 9);
        due("snow goes", law.then(1, 3), 9);
        law.night(1);
        due("from now", law.then(0, 1), 8);
        law.step(0, 0);
        law.salt(1, 0, 4);
        due("nobody there", law.then(0, 1), 4);
        due("nothing changes", law.told(5), 1);
        due("most", law.then(0, 60), 60);
        Law still = Law.on("r2 1 10;t8;n12,10;");
        still.snow(0, true);
        due("snow goes at 0: 9, 9, 11", still.then(0, 3), 11);
        due("first behind 3", still.when(0, 110), 3);
        due("snow stays at 1", Law.on("r2 1 10;t8;n11,12;").then(0, 2), 11);
        due("then(c, 61)", law.then(0, 61), OUTSIDE);
        due("then(c, -1)", law.then(0, -1), OUTSIDE);
        due("no cell", law.then(3, 61), UNKNOWN);
        due("no cell", law.then(-1, 0), UNKNOWN);
    }

    private static void when() {
        Law law = Law.on("r2 1 10;t8;n12,9;");
        due("now", law.when(0, 80), 0);
        due("one", law.when(0, 81), 1);
        due("one", law.when(0, 100), 1);
        due("two cycles", law.when(0, 110), 3);
        due("60 nights: 38 inches; 39 behind 59", law.when(0, 390), 59);
        due("never", law.when(0, 391), NONE);
        law.snow(0, true);
        due("snow: 9, 8, 10", law.when(0, 100), 3);
        due("the least weight", law.when(0, 1), 0);
        Law last = Law.on("r2 1 1;t0;n11;");
        due("behind 60", last.when(0, 60), 60);
        due("never", last.when(0, 61), NONE);
        due("when(c, 0)", law.when(0, 0), OUTSIDE);
        due("when(c, 1000)", law.when(0, 1000), OUTSIDE);
        due("when(c, 999)", law.when(0, 999), NONE);
        due("no cell", law.when(2, 0), UNKNOWN);
    }

    private static void noMore() {
        Law law = Law.on("r2 1 10;t8;c0,1;n12,9,6;");
        due("not now", law.noMore(0, 81), 0);
        due("now, but not behind 3", law.noMore(0, 80), 3);
        due("later", law.noMore(0, 50), 6);
        due("current: 8, 9, 7", law.noMore(1, 80), 2);
        Law still = Law.on("r2 1 10;t8;");
        due("never", still.noMore(0, 80), NONE);
        Law last = Law.on("r2 1 1;t30;n9,11,9;");
        due("behind the 58th", last.noMore(0, 11), 58);
        due("behind the 60th less one", last.noMore(0, 12), 55);
        due("not behind 60", last.noMore(0, 10), NONE);
        due("behind 58", Law.on("r2 1 2;t20;n9,10,10;").noMore(0, 1), 58);
        due("behind 60", Law.on("r2 1 1;t20;n10,10,9;").noMore(0, 1), 60);
        due("noMore(c, 0)", law.noMore(0, 0), OUTSIDE);
        due("noMore(c, 1000)", law.noMore(0, 1000), OUTSIDE);
        due("no cell", law.noMore(-1, 0), UNKNOWN);
    }

    private static void over() {
        Law law = Law.on("r3 2 10;t8;p0 60;p1 80;p1 40;");
        due("straight", law.over(0, 0), 3);
        due("least of like ones", law.over(0, 1), 0);
        due("right", law.over(1, 0), 3);
        due("right", law.over(1, 1), 2);
        law.salt(0, 1, 60);
        due("round the hole", law.over(0, 0), 3);
        due("round the hole", law.over(0, 1), 3);
        law.step(0, 0);
        due("from a cell", law.over(0, 0), 3);
        due("from a cell", law.over(0, 1), 3);
        law.step(0, 3);
        law.step(0, 4);
        due("one", law.over(0, 0), 1);
        due("one", law.over(0, 1), 5);
        // 40 and 60 on 5 would be 100 of 80.
        law.step(2, 5);
        due("it would break", law.over(0, 0), NONE);
        due("it would break", law.over(0, 1), NONE);
        law.step(2, NONE);
        law.step(0, 5);
        due("there", law.over(0, 0), 0);
        due("there", law.over(0, 1), NONE);
        due("no person", law.over(3, 2), UNKNOWN);
        due("over(p, 2)", law.over(0, 2), OUTSIDE);
        due("over(p, -1)", law.over(0, -1), OUTSIDE);
        law.salt(0, 5, 60);
        due("drowned", law.over(0, 0), NOT);
        due("drowned, outside", law.over(0, 2), OUTSIDE);
        // The half breaks a thin cell beside the way: 20 inches are safe, the 2 of cell 1 not.
        Law thin = Law.on("r2 2 10;t20,2,20,20;p0 60;");
        due("no way by 0, nor at 3", thin.over(0, 0), NONE);
        due("as many as cells", Law.on("r2 1 10;t8;p0 60;").over(0, 0), 2);
        Law winding = Law.on("r5 3 30;t9,0,9,9,9,9,0,9,0,9,9,9,9,0,0;p0 1;");
        due("from below", winding.over(0, 0), 7);
        winding.step(0, 0);
        due("winding", winding.over(0, 0), 8);
        due("down", winding.over(0, 1), 5);
        // Not by the bank: cells 0 and 2 are apart.
        Law apart = Law.on("r3 3 10;t9,0,9,0,0,9,9,9,9;p0 60;");
        apart.step(0, 0);
        due("not by the bank", apart.over(0, 0), NONE);
        apart.step(0, NONE);
        due("from the bank", apart.over(0, 0), 3);
        due("from the bank", apart.over(0, 1), 6);
    }

    private static void fewest() {
        Law law = Law.on("r3 1 10;t8;p0 30;p0 40;p1 50;p1 41;");
        due("two", law.fewest(0), 6);
        law.step(0, 0);
        // 30 is there: 50 more is 80, 41 .. 71, 40 .. 70; of two: 40 and 50.
        due("others stay", law.fewest(0), 6);
        // Cell 1 has 15 of it: 40 + 50 + 15; 30 on it is no half: 30 + 50.
        due("half of others", law.fewest(1), 6);
        law.salt(0, 2, 3);
        // Cell 2 bears 50: 50 is not more, 30 and 40 are.
        due("who is elsewhere counts, too", law.fewest(2), 3);
        law.step(2, 2);
        law.salt(0, 2, 2);
        due("drowned", law.told(10), 4);
        due("who is drowned is none", law.fewest(1), 10);
        due("all are not enough", Law.on("r2 1 30;t40;p0 200;p0 200;").fewest(0), NONE);
        due("no persons", Law.on("r2 1 1;t1;").fewest(0), NONE);
        due("a hole", law.fewest(2), NOT);
        due("no cell", law.fewest(3), UNKNOWN);
    }

    private static void leastSalt() {
        Law law = Law.on(PLAIN);
        due("all of it", law.leastSalt(0), 8);
        law.step(0, 0);
        due("bears 60 of 60", law.leastSalt(0), 3);
        due("half beside it", law.leastSalt(1), 6);
        law.salt(0, 0, 2);
        due("one", law.leastSalt(0), 1);
        law.salt(0, 5, 8);
        due("a hole", law.leastSalt(5), NONE);
        due("no cell", law.leastSalt(6), UNKNOWN);
    }

    private static void lives() {
        Law law = Law.on("r3 2 10;t8,2,8,8,8,5;p0 60;p1 90;p0 10;");
        // 60 on 0: 30 of 20 on 1 breaks. On 3: 30 of 80 on 0 and 4.
        due("lives", law.lives(0, 0), 1);
        due("sinks", law.lives(0, 1), 0);
        // 90 on 2: 90 of 80, on 5: 90 of 50.
        due("lives", law.lives(1, 0), 0);
        due("sinks", law.lives(1, 1), 36);
        due("nothing changes", law.told(7), 0);
        law.step(0, 3);
        due("from a cell", law.lives(0, 0), 17);
        due("no such person", law.lives(3, 2), UNKNOWN);
        due("lives(p, 2)", law.lives(0, 2), OUTSIDE);
        law.salt(0, 3, 60);
        due("drowned", law.lives(0, 0), NOT);
        due("drowned, outside", law.lives(0, -1), OUTSIDE);
        due("not onto holes", law.lives(2, 0), 0);
        // The second of two who stand together drowns both: only the stepper is asked.
        Law other = Law.on("r3 1 10;t20,20,6;p1 60;p0 30;");
        other.step(0, 2);
        other.step(1, 0);
        due("it breaks under the other", other.lives(1, 0), 2);
        due("it does not sink", other.lives(1, 1), 0);
    }

    private static void heard() {
        Law law = Law.on("r6 2 10;t8;p0 61;p1 61;p1 60;");
        due("nothing", law.heard(0), NONE);
        law.step(2, 11);
        due("60 of 80 is no crack", law.told(9), 0);
        law.step(2, NONE);
        law.step(0, 0);
        due("cracks", law.told(9), 1);
        due("itself", law.heard(0), 0);
        due("three away", law.heard(3), 0);
        due("three away", law.heard(8), 0);
        due("four away", law.heard(4), NONE);
        law.step(1, 5);
        due("nearest", law.heard(3), 5);
        due("nearest", law.heard(8), 0);
        law.salt(0, 7, 60);
        law.salt(0, 1, 60);
        due("not over holes", law.heard(2), 5);
        due("a hole", law.heard(1), NONE);
        due("cut off", law.heard(6), 0);
        due("no cell", law.heard(12), UNKNOWN);
        Law like = Law.on("r3 1 10;t8;p0 61;p1 61;");
        like.step(0, 0);
        like.salt(0, 1, 1);
        like.step(1, 2);
        due("61 of 70 cracks", like.told(9), 7);
        like.night(1);
        due("itself first", like.heard(1), 1);
        Law least = Law.on("r3 1 10;t8,20,8;p0 61;p1 61;");
        least.step(0, 0);
        least.step(1, 2);
        due("least of like ones", least.heard(1), 0);
    }

    private static void game() {
        Law law = new Law();
        due("mixed", law.game(5, 1, 2, 4, 0), 333333);
        due("mixed worth", law.game(5, 1, 2, 4, 1), 3000);
        due("mixed, the other way", law.game(1, 5, 4, 2, 0), 333333);
        due("mixed, the other way", law.game(1, 5, 4, 2, 1), 3000);
        due("go", law.game(3, 4, 1, 2, 0), 1000000);
        due("go", law.game(3, 4, 1, 2, 1), 3000);
        due("wait", law.game(1, 2, 4, 3, 0), 0);
        due("wait", law.game(1, 2, 4, 3, 1), 3000);
        due("of like ones to go", law.game(7, 7, 7, 7, 0), 1000000);
        due("of like ones", law.game(7, 7, 7, 7, 1), 7000);
        due("cut", law.game(99, 0, 0, 1, 1), 990);
        due("part", law.game(99, 0, 0, 1, 0), 10000);
        due("the most", law.game(0, 99, 99, 0, 1), 49500);
        due("outside", law.game(-1, 0, 0, 0, 0), OUTSIDE);
        due("outside", law.game(0, 100, 0, 0, 0), OUTSIDE);
        due("outside", law.game(0, 0, 100, 0, 0), OUTSIDE);
        due("outside", law.game(0, 0, 0, -1, 0), OUTSIDE);
        due("outside", law.game(100, 0, 0, 0, 0), OUTSIDE);
        due("outside", law.game(0, -1, 0, 0, 0), OUTSIDE);
        due("outside", law.game(0, 0, -1, 0, 0), OUTSIDE);
        due("outside", law.game(0, 0, 0, 100, 0), OUTSIDE);
        due("outside", law.game(0, 0, 0, 0, 2), OUTSIDE);
        due("outside", law.game(0, 0, 0, 0, -1), OUTSIDE);
    }

    private static void tolls() {
        Law law = Law.on("r2 3 10;t0,0,5,0,5,0;p0 10;");
        due("nobody's", law.tolls(9, 9), 0);
        law.salt(1, 2, 60);
        due("two rows", law.tolls(9, 8), 144);
        law.salt(1, 4, 60);
        due("three rows", law.tolls(99, 99), 29403);
        due("no ferries", law.tolls(0, 99), 0);
        due("no tolls", law.tolls(99, 0), 0);
        law.spring();
        due("nobody's", law.tolls(9, 9), 0);
        due("outside", law.tolls(100, 0), OUTSIDE);
        due("outside", law.tolls(-1, 0), OUTSIDE);
        due("outside", law.tolls(0, 100), OUTSIDE);
        due("outside", law.tolls(0, -1), OUTSIDE);
    }

    private static void thaw() {
        Law law = new Law();
        due("none", law.thaw(0, 100), 1000000);
        due("sure", law.thaw(60, 0), 1000000);
        due("never", law.thaw(1, 100), 0);
        due("three", law.thaw(3, 10), 729000);
        due("cut each", law.thaw(4, 3), 885292);
        due("cut to nothing", law.thaw(60, 50), 0);
        due("outside", law.thaw(61, 0), OUTSIDE);
        due("outside", law.thaw(-1, 0), OUTSIDE);
        due("outside", law.thaw(0, 101), OUTSIDE);
        due("outside", law.thaw(0, -1), OUTSIDE);
    }

    // ---- what is seen

    private static void see() {
        Law law = new Law();
        due("outside", law.see(0, true), OUTSIDE);
        due("outside", law.see(61, true), OUTSIDE);
        for (int k = 1; k <= 6; k++) {
            due("seen", law.see(k * 10, false), k);
        }
        due("full", law.see(60, true), FULL);
        due("full, outside", law.see(61, true), OUTSIDE);
        due("told", law.told(13), 6);
    }

    private static void who() {
        Law law = Law.on("r2 1 10;p0 30;p0 40;p1 50;");
        due("all", law.who(0), 8);
        due("all", law.who(1), 0);
        due("all", law.who(2), 0);
        // 50 of 50 does not break it.
        law.see(5, true);
        due("some", law.who(0), 4);
        due("some", law.who(1), 3);
        due("some", law.who(2), 0);
        law.see(7, true);
        due("fewer", law.who(0), 3);
        due("fewer", law.who(1), 5);
        due("fewer", law.who(2), 4);
        law.step(0, 0);
        law.salt(0, 0, 60);
        due("drowned or not", law.who(0), 3);
        law.see(4, false);
        due("none", law.who(0), 0);
        due("none", law.who(1), NONE);
        due("none", law.who(2), 0);
        due("outside", law.who(3), OUTSIDE);
        due("outside", law.who(-1), OUTSIDE);
    }

    private static void ask() {
        Law law = Law.on("r2 1 10;p0 30;p0 40;p1 50;");
        // Weights 0, 30, 40, 70, 50, 80, 90, 120: four of eight above 50.
        due("ask", law.ask(), 5);
        law.see(5, true);
        // 70, 80, 90, 120: two above 80.
        due("ask", law.ask(), 8);
        law.see(8, true);
        // 90, 120
        due("the least of like ones", law.ask(), 9);
        law.see(9, true);
        due("one is left", law.ask(), NONE);
        law.see(1, false);
        due("none is left", law.ask(), NONE);
        due("alike", Law.on("r2 1 30;p0 1;p1 2;").ask(), NONE);
        due("nobody", Law.on("r2 1 30;").ask(), NONE);
        due("t of 1", Law.on("r2 1 3;p0 181;").ask(), 1);
        Law last = Law.on("r2 1 3;p0 178;p1 181;");
        last.see(59, true);
        due("t of 60", last.ask(), 60);
    }

    private static void write() {
        Law law = Law.on(PLAIN);
        due("no cell", law.write(6, 61), UNKNOWN);
        due("outside", law.write(0, 61), OUTSIDE);
        due("outside", law.write(0, -1), OUTSIDE);
        for (int k = 1; k <= 15; k++) {
            due("entry", law.write(k % 6, k % 2 * 60), k);
        }
        due("full", law.write(0, 0), FULL);
        due("full, outside", law.write(0, 61), OUTSIDE);
        due("full, no cell", law.write(-1, 0), UNKNOWN);
        due("told", law.told(14), 15);
    }

    private static void tear() {
        Law law = Law.on(PLAIN);
        law.see(1, true);
        law.write(0, 1);
        law.write(0, 2);
        due("tear", law.tear(), 3);
        due("nothing seen", law.told(13), 0);
        due("no book", law.told(14), 0);
        due("tear", law.tear(), 0);
        due("all fit again", law.who(0), 4);
    }

    private static void judge() {
        Law law = Law.on(PLAIN);
        due("no book", law.judge(), NONE);
        law.write(0, 8);
        law.write(1, 8);
        due("as told", law.judge(), NONE);
        law.write(2, 7);
        due("the entry", law.judge(), 2);
        law.salt(0, 1, 1);
        due("now", law.judge(), 1);
        law.undo();
        law.salt(0, 2, 1);
        due("right now", law.judge(), NONE);
    }

    // ---- draws, images

    private static void seed() {
        Law law = new Law();
        due("first", law.seed(2147483647), 0);
        due("outside", law.seed(-1), OUTSIDE);
        due("was", law.seed(3), 2147483647);
        Law drawn = Law.on("r2 1 1;");
        drawn.seed(2147483647);
        drawn.drift(1);
        // (2147483647 * 1103515245 + 12345) mod 2^31 = 1043980748, / 65536 = 15929, mod 4 = 1: one draw
        due("left over by 2 to the 31", drawn.seed(0), 1043980748);
    }

    private static void keepAndGoBack() {
        Law law = Law.on("r3 1 10;t8;n12,7;p0 60;p1 90;");
        due("not kept", law.goBack(0), NOT);
        due("keep(2)", law.keep(2), UNKNOWN);
        due("keep(-1)", law.keep(-1), UNKNOWN);
        due("goBack(2)", law.goBack(2), UNKNOWN);
        law.step(0, 0);
        law.snow(2, true);
        law.seed(5);
        due("keep", law.keep(0), 1);
        due("nothing can be undone", law.told(15), 0);
        law.salt(1, 0, 60);
        law.night(2);
        law.seed(6);
        law.see(1, true);
        law.write(0, 8);
        due("keep", law.keep(1), 1);
        law.night(1);
        due("go back", law.goBack(0), 1);
        due("nothing can be undone", law.undo(), NOT);
        due("nights", law.told(5), 0);
        due("where", law.person(0, 2), 0);
        due("snow", law.told(8), 4);
        due("whose", law.told(6), NONE);
        due("broke", law.told(11), 0);
        due("inches", law.cell(0, 0), 8);
        due("what is seen stays", law.told(13) + law.told(14), 2);
        due("seed", law.seed(7), 5);
        due("go forth", law.goBack(1), 1);
        due("nights", law.told(5), 2);
        due("whose", law.told(6), 1);
        due("drowned", law.told(10), 1);
        due("seed", law.seed(7), 6);
        due("again", law.goBack(0), 1);
        law.keep(1);
        due("kept anew", law.goBack(1), 1);
        due("nights", law.told(5), 0);
    }

    private static void noRiver() {
        Law law = new Law();
        due("cell", law.cell(0, 9), UNKNOWN);
        due("person", law.person(0, 9), UNKNOWN);
        due("step", law.step(0, NONE), UNKNOWN);
        due("salt", law.salt(0, 0, 1), UNKNOWN);
        due("snow", law.snow(0, true), UNKNOWN);
        due("then", law.then(0, 0), UNKNOWN);
        due("when", law.when(0, 1), UNKNOWN);
        due("noMore", law.noMore(0, 1), UNKNOWN);
        due("over", law.over(0, 0), UNKNOWN);
        due("fewest", law.fewest(0), UNKNOWN);
        due("leastSalt", law.leastSalt(0), UNKNOWN);
        due("lives", law.lives(0, 0), UNKNOWN);
        due("heard", law.heard(0), UNKNOWN);
        due("write", law.write(0, 0), UNKNOWN);
        due("tolls", law.tolls(9, 9), 0);
        due("who", law.who(0), 1);
        law.see(1, true);
        due("who", law.who(0), 0);
        law.tear();
        law.seed(4);
        due("keep", law.keep(0), 1);
        law.seed(5);
        due("goBack", law.goBack(0), 1);
        due("seed", law.seed(0), 4);
    }
}
