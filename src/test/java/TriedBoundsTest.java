/** The bounds of what is tried: promises 16 to 26, sentence by sentence. */
public final class TriedBoundsTest {
    private static final int NONE = IceLaw.NONE;
    private static final int UNKNOWN = IceLaw.UNKNOWN;
    private static final int OUTSIDE = IceLaw.OUTSIDE;
    private static final int NOT = IceLaw.NOT;

    public static void main(String[] args) {
        thenBounds();
        thenNobodyThere();
        thenSnow();
        first();
        whenBounds();
        whenFirst();
        noMoreBounds();
        noMoreFirst();
        overBounds();
        overFewest();
        overSafe();
        overThere();
        fewestBounds();
        fewestMoreThanBears();
        fewestOfLikeOnes();
        leastSaltBounds();
        leastSaltEnough();
        livesBounds();
        livesAndSinks();
        heardBounds();
        heardAway();
        gameBounds();
        gameSaddle();
        gameMixed();
        tollsBounds();
        tollsRows();
        thawBounds();
        thawCut();
        Check.end("TriedBoundsTest");
    }

    private static void about(String words) {
        Check.about(words);
    }

    private static void due(String call, int got, int want) {
        Check.due(call, got, want);
    }

    // ---- then(), told(12), when(), noMore()

    private static void thenBounds() {
        about("THEN: INCHES of a CELL behind n NIGHTS (0 .. 60), nobody there.");
        Law law = Law.on("r2 1 1;t20;c0,1;n13,8,10;");
        for (int c : Check.outside(0, 1)) {
            due("then(" + c + ", 0)", law.then(c, 0), UNKNOWN);
            due("then(" + c + ", 61): the first refusal", law.then(c, 61), UNKNOWN);
        }
        for (int n : Check.outside(0, 60)) {
            due("then(0, " + n + ")", law.then(0, n), OUTSIDE);
            due("then(1, " + n + ")", law.then(1, n), OUTSIDE);
        }
        due("behind none: now", law.then(0, 0), 20);
        due("behind 60", law.then(0, 60), 40);
        due("behind 59", law.then(0, 59), 40);
        due("behind 58", law.then(0, 58), 42);
        due("the last cell behind 60", law.then(1, 60), 0);
        due("without a river", new Law().then(0, 61), UNKNOWN);
        for (int n = 0; n <= 60; n++) {
            Law passed = Law.on("r2 1 1;t20;c0,1;n13,8,10;");
            passed.snow(0, true);
            int said = passed.then(0, n);
            int beside = passed.then(1, n);
            due("nothing changes by it", passed.told(5) + passed.cell(0, 0), 20);
            if (n > 0) {
                passed.night(n);
            }
            due("as it comes behind " + n, passed.cell(0, 0), said);
            due("as it comes behind " + n, passed.cell(1, 0), beside);
        }
    }

    private static void thenNobodyThere() {
        about("nobody there");
        Law law = Law.on("r2 1 10;t8;n7;p0 60;");
        law.step(0, 0);
        due("it would break under 60", law.then(0, 1), 5);
        due("it still bears 50", law.when(0, 50), 0);
        due("60 no more behind one", law.noMore(0, 60), 1);
        law.night(1);
        due("it did break", law.cell(0, 0), 0);
        about("INCHES are 0 to 60.");
        Law ends = Law.on("r2 1 1;t40,1;n20,20,20,0;");
        due("60 at most", ends.then(0, 3), 60);
        due("10 fewer from 60", ends.then(0, 4), 50);
        Law low = Law.on("r2 1 1;t1;n0,20;");
        due("0 at least", low.then(0, 1), 0);
        due("10 more from 0", low.then(0, 2), 10);
    }

    /** Snow lies till the first night that has no cold above 0: as it comes, so it is tried. */
    private static void thenSnow() {
        about("half of that (cut) where SNOW lies. With another COLD: as many INCHES fewer as COLD is below 0, and CURRENT; all SNOW goes.");
        String[] colds = {"12,10", "10,12", "11,12", "11,11,13", "9,12", "14,12,10,13", "20,0", "13"};
        for (String list : colds) {
            String text = "r2 1 10;t8;c0,1;n" + list + ";";
            Law tried = Law.on(text);
            Law passed = Law.on(text);
            tried.snow(0, true);
            passed.snow(0, true);
            int now = tried.cell(0, 0);
            int most = now;
            int least = now;
            for (int n = 1; n <= 60; n++) {
                passed.night(1);
                int inches = passed.cell(0, 0);
                due(list + ": then(0, " + n + ")", tried.then(0, n), inches);
                if (inches > most) {
                    due(list + ": first bears more than " + most * 10, tried.when(0, most * 10 + 1), n);
                    most = inches;
                }
                if (inches < least) {
                    due(list + ": first bears less than " + least * 10, tried.noMore(0, least * 10), n);
                    least = inches;
                }
            }
        }
    }

    private static void first() {
        about("FIRST: the CELL with INCHES that has least SPARE; of like ones the least; NONE.");
        due("of like ones the least", Law.on("r6 3 1;t5;").told(12), 0);
        due("not a hole", Law.on("r6 3 1;t0,5;").told(12), 1);
        due("the last alone", Law.on("r6 3 1;t" + "0,".repeat(17) + "40;").told(12), 17);
        due("none", Law.on("r6 3 1;t0;").told(12), NONE);
        due("no river", new Law().told(12), NONE);
        due("the thinnest", Law.on("r3 1 1;t9,8,8;").told(12), 1);
        Law law = Law.on("r3 1 1;t30,30,30;p0 20;p1 20;");
        law.step(1, 2);
        due("by its load", law.told(12), 2);
        law.step(0, 0);
        // All three have 10 to spare: 20 on the banks, half of 40 in the middle.
        due("of like ones the least", law.told(12), 0);
    }

    private static void whenBounds() {
        about("a CELL BEARS a WEIGHT (1 .. 999) first; NONE.");
        Law law = Law.on("r2 1 30;t40,0;");
        for (int c : Check.outside(0, 1)) {
            due("when(" + c + ", 1)", law.when(c, 1), UNKNOWN);
            due("when(" + c + ", 0): the first refusal", law.when(c, 0), UNKNOWN);
        }
        for (int weight : Check.outside(1, 999)) {
            due("when(0, " + weight + ")", law.when(0, weight), OUTSIDE);
        }
        due("1 is taken", law.when(0, 1), 0);
        due("999 is taken", law.when(0, 999), 0);
        due("a hole bears not even 1", law.when(1, 1), NONE);
        due("without a river", new Law().when(0, 0), UNKNOWN);
    }

    private static void whenFirst() {
        about("WHEN: behind how many NIGHTS (0 .. 60; nobody there)");
        Law law = Law.on("r2 1 1;t0;n11;");
        for (int weight = 1; weight <= 60; weight++) {
            due("bears " + weight + " first", law.when(0, weight), weight);
        }
        due("61 is not behind 60", law.when(0, 61), NONE);
        due("999 is not behind 60", law.when(0, 999), NONE);
        Law now = Law.on("r2 1 7;t9;n9;");
        due("as much as it bears, now", now.when(0, 63), 0);
        due("one more, never", now.when(0, 64), NONE);
        Law late = Law.on("r2 1 30;t0;c0,9;n20,0,20;");
        due("300", late.when(0, 300), 1);
        due("301 behind 4, the third having been 300 again", late.when(0, 301), 4);
        due("the current lets it bear less: 1, 0, 1, 2 inches", late.when(1, 60), 4);
        due("2 inches at most", late.when(1, 61), NONE);
    }

    private static void noMoreBounds() {
        about("NO MORE: behind how many it first does not (0, if it does not now).");
        Law law = Law.on("r2 1 30;t40,0;");
        for (int c : Check.outside(0, 1)) {
            due("noMore(" + c + ", 1)", law.noMore(c, 1), UNKNOWN);
            due("noMore(" + c + ", 1000): the first refusal", law.noMore(c, 1000), UNKNOWN);
        }
        for (int weight : Check.outside(1, 999)) {
            due("noMore(0, " + weight + ")", law.noMore(0, weight), OUTSIDE);
        }
        due("1 is taken", law.noMore(0, 1), NONE);
        due("999 is taken", law.noMore(0, 999), NONE);
        due("a hole does not now", law.noMore(1, 1), 0);
        due("without a river", new Law().noMore(0, 0), UNKNOWN);
    }

    private static void noMoreFirst() {
        about("NO MORE: behind how many it first does not (0, if it does not now).");
        Law law = Law.on("r2 1 1;t40;n9;");
        for (int weight = 1; weight <= 40; weight++) {
            due("bears " + weight + " no more", law.noMore(0, weight), 41 - weight);
        }
        due("41 not now", law.noMore(0, 41), 0);
        Law last = Law.on("r2 1 1;t20;n10,10,9;");
        due("behind the 60th", last.noMore(0, 1), 60);
        Law beyond = Law.on("r2 1 1;t21;n10,10,9;");
        due("not behind the 60th", beyond.noMore(0, 1), NONE);
        due("the 60th", beyond.noMore(0, 2), 60);
        due("the 57th", beyond.noMore(0, 3), 57);
    }

    // ---- over()

    private static void overBounds() {
        about("OVER: what = 0 how many STEPS, 1 the CELL; NONE. UNKNOWN, OUTSIDE, NOT: it is DROWNED.");
        Law law = Law.on("r2 1 10;p0 1;p1 1;");
        for (int p : Check.outside(0, 1)) {
            due("over(" + p + ", 0)", law.over(p, 0), UNKNOWN);
            due("over(" + p + ", 2): the first refusal", law.over(p, 2), UNKNOWN);
        }
        for (int what : Check.outside(0, 1)) {
            due("over(0, " + what + ")", law.over(0, what), OUTSIDE);
        }
        law.step(1, 1);
        law.salt(0, 1, 60);
        due("it is drowned", law.over(1, 0), NOT);
        due("it is drowned", law.over(1, 1), NOT);
        due("it is drowned, the first refusal", law.over(1, 2), OUTSIDE);
        due("without a river", new Law().over(0, 2), UNKNOWN);
        due("without persons", Law.on("r2 1 1;").over(0, 0), UNKNOWN);
    }

    private static void overFewest() {
        about("OVER: the fewest STEPS of a PERSON to CELLS, from where it is, to one at the other bank (of the left town: of COLUMN W less 1)");
        for (int w = 2; w <= 6; w++) {
            for (int h = 1; h <= 3; h++) {
                Law law = Law.on("r" + w + " " + h + " 1;t1;p0 1;p1 1;");
                due("the left over " + w, law.over(0, 0), w);
                due("of like ones the least", law.over(0, 1), 0);
                due("the right over " + w, law.over(1, 0), w);
                due("of like ones the least", law.over(1, 1), w - 1);
                law.step(0, (h - 1) * w);
                due("one step done", law.over(0, 0), w - 1);
                due("on along the row", law.over(0, 1), (h - 1) * w + 1);
            }
        }
        // The longest way: down, round and up through three rows.
        Law most = Law.on("r5 3 1;t1,0,1,1,1,1,0,1,0,1,1,1,1,0,0;p0 1;");
        most.step(0, 0);
        due("eight more", most.over(0, 0), 8);
        due("down", most.over(0, 1), 5);
        Law none = Law.on("r3 3 1;t1,0,1;p0 1;");
        due("no way", none.over(0, 0), NONE);
        due("no way", none.over(0, 1), NONE);
        Law holes = Law.on("r2 1 1;t0;p0 1;p1 1;");
        due("nothing but holes", holes.over(0, 0), NONE);
        due("nothing but holes", holes.over(1, 1), NONE);
        about("to CELLS");
        Law bank = Law.on("r3 3 1;t1,0,1,0,0,1,1,1,1;p0 1;");
        bank.step(0, 0);
        due("not by the bank", bank.over(0, 0), NONE);
        about("of like ones the least");
        Law like = Law.on("r3 3 1;t1;p0 1;p1 1;");
        like.step(0, 3);
        like.salt(0, 4, 1);
        due("up or down", like.over(0, 1), 0);
        due("up or down", like.over(0, 0), 3);
    }

    private static void overSafe() {
        about("by none of which a CELL BREAKS, all others staying");
        due("as much as it bears", Law.on("r3 1 5;t20,20,20;p0 100;").over(0, 0), 3);
        due("one more than the last bears", Law.on("r3 1 5;t21,21,20;p0 101;").over(0, 0), NONE);
        due("one more than the first bears", Law.on("r3 1 5;t20,21,21;p0 101;").over(0, 0), NONE);
        due("one more than the middle bears", Law.on("r3 1 5;t21,20,21;p0 101;").over(0, 0), NONE);
        due("half beside it, as much as it bears", Law.on("r3 2 5;t20,20,20,10;p0 101;p1 1;").over(1, 0), 3);
        // Row 1 bears half of 100; of 102 it does not, nor the whole of it.
        due("half of 101 on 50", Law.on("r3 2 5;t40,40,40,10,10,10;p0 101;").over(0, 0), 3);
        due("half of 102 on 50", Law.on("r3 2 5;t40,40,40,10,10,10;p0 102;").over(0, 0), NONE);
        Law others = Law.on("r3 1 5;t20;p0 50;p1 50;p1 1;");
        others.step(1, 2);
        due("50 and 50 on 100", others.over(0, 0), 3);
        others.step(2, 2);
        due("50, 50 and 1 on 100", others.over(0, 0), NONE);
        about("all others staying");
        Law crowd = Law.on("r3 1 5;t20,20,20;p0 76;p1 50;");
        crowd.step(1, 2);
        due("half of the other weighs on the middle: 101 on 100", crowd.over(0, 0), NONE);
        Law fewer = Law.on("r3 1 5;t20,20,40;p0 75;p1 50;");
        fewer.step(1, 2);
        due("75 and half of 50 on 100", fewer.over(0, 0), 3);
    }

    private static void overThere() {
        about("(it is there: 0, NONE)");
        Law law = Law.on("r2 3 1;t1;p0 1;p1 1;");
        for (int row = 0; row < 3; row++) {
            law.step(0, row * 2);
            law.step(0, row * 2 + 1);
            due("there", law.over(0, 0), 0);
            due("there", law.over(0, 1), NONE);
            law.step(0, row * 2);
            due("its own bank is not there", law.over(0, 0), 1);
            due("its own bank is not there", law.over(0, 1), row * 2 + 1);
            law.step(0, NONE);
        }
        law.step(1, 5);
        law.step(1, 4);
        due("the right is there", law.over(1, 0), 0);
        due("the right is there", law.over(1, 1), NONE);
    }

    // ---- fewest(), leastSalt()

    private static void fewestBounds() {
        about("FEWEST; NONE. UNKNOWN, NOT: it is a HOLE.");
        Law law = Law.on("r2 1 1;t1,0;p0 2;");
        for (int c : Check.outside(0, 1)) {
            due("fewest(" + c + ")", law.fewest(c), UNKNOWN);
        }
        due("a hole", law.fewest(1), NOT);
        due("one inch is no hole", law.fewest(0), 1);
        due("the last cell", Law.on("r6 3 1;t1;p0 2;").fewest(17), 1);
        due("without persons", Law.on("r2 1 1;t1;").fewest(0), NONE);
        due("without a river", new Law().fewest(0), UNKNOWN);
    }

    private static void fewestMoreThanBears() {
        about("would make its LOAD more than it BEARS; NONE.");
        String six = "p0 200;".repeat(6);
        due("all six on 1200: no more", Law.on("r2 1 30;t40;" + six).fewest(0), NONE);
        due("all six on 1170", Law.on("r2 1 30;t39;" + six).fewest(0), 63);
        due("five on 990", Law.on("r2 1 30;t33;" + six).fewest(1), 31);
        due("one on 199", Law.on("r2 1 1;t40;" + six).fewest(0), 1);
        due("100 on 100: two", Law.on("r2 1 5;t20;p0 100;p0 1;").fewest(0), 3);
        due("101 on 100: one", Law.on("r2 1 5;t20;p0 100;p0 101;").fewest(0), 2);
        about("all others where they are");
        Law there = Law.on("r3 1 10;t10,10,20;p0 60;p1 40;p1 41;");
        there.step(0, 0);
        due("60 is there: 41 more", there.fewest(0), 4);
        due("60 and 41 of two are the least", there.fewest(1), 5);
        due("nobody beside it: 141 on 200", there.fewest(2), NONE);
        Law half = Law.on("r3 1 10;t10;p0 58;p1 40;p1 41;");
        half.step(0, 0);
        due("40, 41 and half of 58; no half of who comes itself", half.fewest(1), 6);
        about("PERSONS who are not DROWNED");
        Law drowned = Law.on("r3 1 10;t9;p0 100;p0 60;p1 50;");
        due("one alone", drowned.fewest(1), 1);
        drowned.step(0, 0);
        due("drowned", drowned.told(10), 1);
        due("two who are not", drowned.fewest(1), 6);
    }

    private static void fewestOfLikeOnes() {
        about("(a SET; of like ones the least)");
        due("any of six", Law.on("r2 1 1;t1;" + "p1 2;".repeat(6)).fewest(0), 1);
        due("any two of six", Law.on("r2 1 1;t3;" + "p1 2;".repeat(6)).fewest(0), 3);
        due("the last alone is fewer than two", Law.on("r2 1 1;t4;p0 3;p0 3;p0 3;p0 3;p0 3;p0 5;").fewest(0), 32);
        due("the two that are enough", Law.on("r2 1 1;t7;p0 1;p0 4;p0 1;p0 4;p0 1;p0 4;").fewest(0), 10);
    }

    private static void leastSaltBounds() {
        about("LEAST SALT; NONE. UNKNOWN.");
        Law law = Law.on("r2 1 1;t1,0;");
        for (int c : Check.outside(0, 1)) {
            due("leastSalt(" + c + ")", law.leastSalt(c), UNKNOWN);
        }
        about("NONE: it is a HOLE.");
        due("a hole", law.leastSalt(1), NONE);
        due("one inch", law.leastSalt(0), 1);
        due("the last cell", Law.on("r6 3 1;t7;").leastSalt(17), 7);
        due("without a river", new Law().leastSalt(0), UNKNOWN);
    }

    private static void leastSaltEnough() {
        about("the fewest INCHES less by which a CELL BEARS less than its LOAD as it is, or has none left");
        Law thick = Law.on("r2 1 30;t40;n20;");
        thick.night(2);
        due("60, till none is left", thick.leastSalt(0), 60);
        for (int weight = 1; weight <= 200; weight++) {
            Law law = Law.on("r3 1 10;t40;p0 " + weight + ";");
            law.step(0, 0);
            int least = 40 - (weight - 1) / 10;
            due("under " + weight, law.leastSalt(0), least);
            due("beside " + weight, law.leastSalt(1), weight == 1 ? 40 : 40 - (weight / 2 - 1) / 10);
            due("far from " + weight, law.leastSalt(2), 40);
            if (least > 1) {
                due("one less does not break it", law.salt(0, 0, least - 1), 0);
                due("then one more", law.leastSalt(0), 1);
                law.undo();
            }
            due("it breaks it", law.salt(0, 0, least), 1);
        }
    }

    // ---- lives(), heard()

    private static void livesBounds() {
        about("what = 0 LIVES, 1 SINKS. UNKNOWN, OUTSIDE, NOT: it is DROWNED.");
        Law law = Law.on("r2 1 10;p0 1;p1 1;");
        for (int p : Check.outside(0, 1)) {
            due("lives(" + p + ", 0)", law.lives(p, 0), UNKNOWN);
            due("lives(" + p + ", 2): the first refusal", law.lives(p, 2), UNKNOWN);
        }
        for (int what : Check.outside(0, 1)) {
            due("lives(1, " + what + ")", law.lives(1, what), OUTSIDE);
        }
        due("none", law.lives(1, 0), 0);
        due("none", law.lives(1, 1), 0);
        law.step(1, 1);
        law.salt(0, 1, 60);
        due("it is drowned", law.lives(1, 0), NOT);
        due("it is drowned", law.lives(1, 1), NOT);
        due("it is drowned, the first refusal", law.lives(1, 2), OUTSIDE);
        due("without a river", new Law().lives(0, 2), UNKNOWN);
    }

    private static void livesAndSinks() {
        about("LIVES: CELLS (a SET) to which a STEP of a PERSON makes some CELL BREAK, and it is not DROWNED; SINKS: CELLS to which a STEP makes it DROWN.");
        due("the three at the left", Law.on("r6 3 1;t1;p0 2;").lives(0, 1), 1 | 1 << 6 | 1 << 12);
        due("the three at the right", Law.on("r6 3 1;t1;p1 2;").lives(0, 1), 1 << 5 | 1 << 11 | 1 << 17);
        due("as much as it bears", Law.on("r6 3 1;t2;p1 2;").lives(0, 1), 0);
        due("not onto holes", Law.on("r6 3 1;t0;p1 2;").lives(0, 1), 0);
        // 17 holds, 16 and 11 break beside it.
        Law beside = Law.on("r6 3 10;t" + "1,".repeat(17) + "20;p1 24;");
        due("lives at the last", beside.lives(0, 0), 1 << 17);
        due("sinks at the others", beside.lives(0, 1), 1 << 5 | 1 << 11);
        Law sinks = Law.on("r2 1 1;t1,9;p0 2;");
        due("it breaks and sinks: it does not live", sinks.lives(0, 0), 0);
        due("it sinks", sinks.lives(0, 1), 1);
        Law both = Law.on("r3 1 10;t20,20,6;p1 60;p0 30;p0 20;");
        both.step(0, 2);
        both.step(1, 0);
        due("the other drowns, it does not", both.lives(1, 0), 2);
        due("it does not sink", both.lives(1, 1), 0);
        about("nothing changes by it");
        due("nobody drowned", both.told(10), 0);
        due("nothing broke", both.told(11), 0);
        due("nobody's", both.told(6), NONE);
    }

    private static void heardBounds() {
        about("HEARD; NONE. UNKNOWN.");
        Law law = Law.on("r6 3 1;t1;p1 1;");
        for (int c : Check.outside(0, 17)) {
            due("heard(" + c + ")", law.heard(c), UNKNOWN);
        }
        due("nothing cracks", law.heard(17), NONE);
        law.step(0, 17);
        due("the last cell", law.heard(17), 17);
        due("without a river", new Law().heard(0), UNKNOWN);
    }

    private static void heardAway() {
        about("3 away at most (itself is 0 away); of like ones the least; NONE.");
        Law law = Law.on("r6 3 1;t4;p0 4;");
        law.step(0, 6);
        due("one cracks", law.told(9), 1 << 6);
        for (int c = 0; c < 18; c++) {
            int away = Math.abs(c / 6 - 1) + c % 6;
            due("heard at " + c, law.heard(c), away <= 3 ? 6 : NONE);
        }
        about("by going over NEXT ones, all with INCHES (itself, too)");
        Law round = Law.on("r3 2 1;t4,0,4,4,4,4;p0 4;");
        round.step(0, 0);
        due("three round the hole to 5", round.heard(5), 0);
        due("four round the hole to 2", round.heard(2), NONE);
        due("at the hole itself", round.heard(1), NONE);
        due("beside it", round.heard(4), 0);
        Law cut = Law.on("r3 1 1;t4,0,4;p0 4;");
        cut.step(0, 0);
        due("not over a hole", cut.heard(2), NONE);
        due("not at a hole", cut.heard(1), NONE);
        Law like = Law.on("r5 1 1;t4,40,40,40,4;p0 4;p1 4;");
        like.step(0, 0);
        like.step(1, 4);
        due("two away on both sides", like.heard(2), 0);
        due("nearer at the right", like.heard(3), 4);
        due("nearer at the left", like.heard(1), 0);
        due("itself first", like.heard(4), 4);
        due("itself first", like.heard(0), 0);
    }

    // ---- game()

    private static void gameBounds() {
        about("each 0 .. 99");
        Law law = new Law();
        for (int v : Check.outside(0, 99)) {
            due("a " + v, law.game(v, 0, 0, 0, 0), OUTSIDE);
            due("b " + v, law.game(0, v, 0, 0, 0), OUTSIDE);
            due("c " + v, law.game(0, 0, v, 0, 1), OUTSIDE);
            due("d " + v, law.game(0, 0, 0, v, 1), OUTSIDE);
        }
        for (int what : Check.outside(0, 1)) {
            due("what " + what, law.game(1, 2, 3, 4, what), OUTSIDE);
        }
        due("all at 0", law.game(0, 0, 0, 0, 1), 0);
        due("all at 99", law.game(99, 99, 99, 99, 1), 99000);
        due("a at 99", law.game(99, 0, 0, 99, 1), 49500);
        due("b at 99", law.game(0, 99, 99, 0, 0), 500000);
        due("the least part", law.game(99, 0, 0, 1, 0), 10000);
        due("the greatest part", law.game(1, 0, 0, 99, 0), 990000);
    }

    private static void gameSaddle() {
        about("if the greater of the least of both rows is the lesser of the greatest of both columns: a MILLION or 0 (the row with the greater least; of like ones to go)");
        Law law = new Law();
        due("go", law.game(3, 4, 1, 2, 0), 1000000);
        due("wait", law.game(1, 2, 3, 4, 0), 0);
        due("of like ones to go", law.game(5, 5, 5, 5, 0), 1000000);
        due("of like least ones to go", law.game(2, 9, 2, 3, 0), 1000000);
        due("of like least ones to go", law.game(2, 3, 2, 9, 0), 1000000);
        due("of like least ones to go", law.game(0, 9, 0, 9, 0), 1000000);
        about("the greater least");
        due("go is worth", law.game(3, 4, 1, 2, 1), 3000);
        due("wait is worth", law.game(1, 2, 3, 4, 1), 3000);
        due("like ones are worth", law.game(2, 9, 2, 3, 1), 2000);
        about("a MILLION or 0");
        due("a saddle at the brink", law.game(2, 1, 1, 1, 0), 1000000);
        due("a saddle at the brink", law.game(2, 1, 1, 1, 1), 1000);
        due("no saddle beyond it", law.game(2, 1, 1, 2, 0), 500000);
        due("no saddle beyond it", law.game(2, 1, 1, 2, 1), 1500);
    }

    private static void gameMixed() {
        about("else (d less c) times a MILLION / (a and d, less b, less c)");
        for (int code = 0; code < 1296; code++) {
            int a = code % 6;
            int b = code / 6 % 6;
            int c = code / 36 % 6;
            int d = code / 216;
            dueGame(a, b, c, d);
            dueGame(99 - a * 7, b * 19, c * 3, 99 - d);
        }
        Law law = new Law();
        due("cut", law.game(0, 1, 2, 0, 0), 666666);
        due("worth is cut", law.game(0, 1, 2, 0, 1), 666);
    }

    private static void dueGame(int a, int b, int c, int d) {
        int sure = Math.max(Math.min(a, b), Math.min(c, d));
        boolean isSaddle = sure == Math.min(Math.max(a, c), Math.max(b, d));
        long part = isSaddle ? sure == Math.min(a, b) ? 1000000 : 0 : (d - c) * 1000000L / (a + d - b - c);
        long worth = isSaddle ? sure * 1000L : (a * d - b * c) * 1000L / (a + d - b - c);
        Law law = new Law();
        String name = a + ", " + b + ", " + c + ", " + d;
        due("part of " + name, law.game(a, b, c, d, 0), (int) part);
        due("worth of " + name, law.game(a, b, c, d, 1), (int) worth);
        // What the part makes sure of is never more than the worth, by what was cut at most less.
        long ifGoes = part * a + (1000000 - part) * c;
        long ifWaits = part * b + (1000000 - part) * d;
        long sureOf = Math.min(ifGoes, ifWaits) / 1000;
        due("sure of " + name, sureOf <= worth && sureOf >= worth - 1 ? 1 : 0, 1);
    }

    // ---- tolls(), thaw()

    private static void tollsBounds() {
        about("TOLLS: n ferries (0 .. 99) pay c (0 .. 99) each");
        Law law = Law.on("r2 1 1;t1,0;");
        law.salt(0, 0, 1);
        for (int v : Check.outside(0, 99)) {
            due("n " + v, law.tolls(v, 1), OUTSIDE);
            due("c " + v, law.tolls(1, v), OUTSIDE);
            due("n of nobody's " + v, new Law().tolls(v, 0), OUTSIDE);
        }
        due("99 of 99", law.tolls(99, 99), 9801);
        due("99 of 0", law.tolls(99, 0), 0);
        due("0 of 99", law.tolls(0, 99), 0);
        due("1 of 1", law.tolls(1, 1), 1);
    }

    private static void tollsRows() {
        about("for each ROW in which all CELLS are HOLES: what the owner gets (0: it is nobody's).");
        Law law = Law.on("r6 3 1;t1;");
        int holes = 0;
        for (int c = 0; c < 18; c++) {
            due("rows of " + holes + " holes", law.tolls(99, 99), holes / 6 * 9801);
            law.salt(c % 2, c, 1);
            holes++;
        }
        due("all rows", law.tolls(99, 99), 29403);
        law.spring();
        due("nobody's", law.tolls(99, 99), 0);
        due("nobody's from the start", Law.on("r2 3 1;t0;").tolls(99, 99), 0);
        due("no river", new Law().tolls(99, 99), 0);
        // Six holes in a row of cells, but not of one row.
        Law across = Law.on("r6 3 1;t1,0,0,0,0,0,0,1;");
        across.salt(0, 7, 1);
        due("not across two rows", across.tolls(1, 1), 0);
        Law right = Law.on("r2 1 1;t1,0;");
        right.salt(1, 0, 1);
        due("the right's", right.tolls(2, 3), 6);
    }

    private static void thawBounds() {
        about("THAW (q 0 .. 100). OUTSIDE.");
        Law law = new Law();
        for (int n : Check.outside(0, 60)) {
            due("n " + n, law.thaw(n, 50), OUTSIDE);
        }
        for (int q : Check.outside(0, 100)) {
            due("q " + q, law.thaw(0, q), OUTSIDE);
        }
        due("no night", law.thaw(0, 0), 1000000);
        due("no night", law.thaw(0, 100), 1000000);
        due("60 nights by none", law.thaw(60, 0), 1000000);
        due("60 nights by all", law.thaw(60, 100), 0);
        due("one night by all", law.thaw(1, 100), 0);
        due("one night by one", law.thaw(1, 1), 990000);
        due("one night by 99", law.thaw(1, 99), 10000);
    }

    private static void thawCut() {
        about("a MILLION times (100 less q) / 100 each (cut)");
        Law law = new Law();
        due("cut each night, not once", law.thaw(9, 1), 913516);
        due("cut each night, not once", law.thaw(7, 33), 60606);
        due("3 by 99", law.thaw(3, 99), 1);
        due("4 by 99", law.thaw(4, 99), 0);
        for (int q = 0; q <= 100; q++) {
            int odds = 1000000;
            Law nights = new Law();
            for (int n = 0; n <= 60; n++) {
                due("thaw(" + n + ", " + q + ")", nights.thaw(n, q), odds);
                odds = odds * (100 - q) / 100;
            }
        }
    }
}
