/** The bounds of the text and of what it tells: section 1 and promises 1 to 8, sentence by sentence. */
public final class TextBoundsTest {
    private static final int NONE = IceLaw.NONE;
    private static final int UNKNOWN = IceLaw.UNKNOWN;
    private static final int OUTSIDE = IceLaw.OUTSIDE;
    private static final int NOT = IceLaw.NOT;
    private static final int FULL = IceLaw.FULL;

    /** 8 cells; every number of it that is cut short is still within its bounds. */
    private static final String WHOLE = "r4 2 10;t12,3;c1,2;n15,0;p0 70;p1 200;";

    public static void main(String[] args) {
        constants();
        newObject();
        lettersTaken();
        fullText();
        everyLetterFirst();
        everyLetterAsWord();
        everyLetterInNumbers();
        size();
        thick();
        current();
        nights();
        persons();
        figures();
        blanks();
        firstFault();
        leastFault();
        lengthOfLists();
        again();
        endOfText();
        emptyText();
        textBehindRiver();
        riverAnew();
        riverWithFault();
        faultOfLatest();
        toldBounds();
        cellBounds();
        personBounds();
        coldBounds();
        Check.end("TextBoundsTest");
    }

    private static void about(String words) {
        Check.about(words);
    }

    private static void due(String call, int got, int want) {
        Check.due(call, got, want);
    }

    private static void dueFault(String text, int number, int letter) {
        Law law = new Law();
        due("river of '" + text + "'", law.read(text), -10 - number);
        due("fault of '" + text + "'", law.fault(), letter);
        due("no river of '" + text + "'", law.told(0), 0);
    }

    private static void dueCells(String text, int cells) {
        Law law = new Law();
        due("river of '" + text + "'", law.read(text), cells);
        due("fault of '" + text + "'", law.fault(), NONE);
    }

    /** All numbers behind these letters, in one to four figures: those within the bounds alone are taken. */
    private static void dueNumbers(String before, String after, int least, int most) {
        for (int v = 0; v <= 1200; v++) {
            dueNumber(before, String.valueOf(v), after, v >= least && v <= most);
        }
        for (int v = least; v <= most; v++) {
            dueNumber(before, String.format("%03d", v), after, true);
            dueNumber(before, String.format("%04d", v), after, false);
        }
        dueNumber(before, "99999999999999999999", after, false);
        dueNumber(before, "4294967298", after, false);
        dueNumber(before, String.format("%030d", least), after, false);
    }

    private static void dueNumber(String before, String number, String after, boolean isTaken) {
        Law law = new Law();
        String text = before + number + after;
        boolean isRiver = law.read(text) > 0;
        due("'" + text + "' is a river", isRiver ? 1 : 0, isTaken ? 1 : 0);
        due("fault of '" + text + "'", law.fault(), isTaken ? NONE : before.length());
        if (!isTaken) {
            due("number of the fault of '" + text + "'", law.read(text), -12);
        }
    }

    // ---- the object, its letters

    private static void constants() {
        about("They are far below all that is counted: -1000000001 and on.");
        due("UNKNOWN", UNKNOWN, -1000000001);
        due("OUTSIDE", OUTSIDE, -1000000002);
        due("NOT", NOT, -1000000003);
        due("FULL", FULL, -1000000004);
        about("NONE is -1.");
        due("NONE", NONE, -1);
    }

    private static void newObject() {
        about("`IceLaw()`: No RIVER.");
        Law law = new Law();
        for (int what = 0; what <= 15; what++) {
            due("told(" + what + ")", law.told(what), what == 6 || what == 12 ? NONE : 0);
        }
        due("cell(0, 0)", law.cell(0, 0), UNKNOWN);
        due("person(0, 0)", law.person(0, 0), UNKNOWN);
        due("fault()", law.fault(), NONE);
        due("undo()", law.undo(), NOT);
        due("who(0): the set of none", law.who(0), 1);
        due("judge()", law.judge(), NONE);
        due("goBack(0)", law.goBack(0), NOT);
        due("goBack(1)", law.goBack(1), NOT);
        due("seed", law.seed(0), 0);
    }

    private static void lettersTaken() {
        about("One letter (a number 0 .. 255) comes behind THE TEXT: how many it has.");
        Law law = new Law();
        int count = 0;
        for (int letter : new int[] {0, 255, 1, 254, 'r', 32}) {
            count++;
            due("feed(" + letter + ")", law.feed(letter), count);
        }
        for (int letter : Check.outside(0, 255)) {
            due("feed(" + letter + ")", law.feed(letter), OUTSIDE);
        }
        due("letters", law.told(4), count);
        Law like = Law.on("r2 1 1;");
        due("no letter of 256 more", like.feed('r' + 256), OUTSIDE);
        due("no letter of 256 fewer", like.feed('r' - 256), OUTSIDE);
        due("letters", like.told(4), 0);
    }

    private static void fullText() {
        about("OUTSIDE, FULL (240).");
        String whole = "r2 1" + " ".repeat(234) + "7;";
        Law law = new Law();
        for (int k = 0; k < 240; k++) {
            due("letter " + k, law.feed(whole.charAt(k)), k + 1);
        }
        due("the letter behind the 240th", law.feed('x'), FULL);
        due("a blank behind the 240th", law.feed(' '), FULL);
        due("a letter that is none behind the 240th", law.feed(256), OUTSIDE);
        due("letters", law.told(4), 240);
        due("the text as it was", law.river(), 2);
        due("its last number", law.told(2), 7);
        due("it is empty then", law.feed('r'), 1);
        about("(the end at the text's length)");
        dueFault("r2 1 1" + " ".repeat(234), 1, 240);
        dueFault("r2 1 1;" + " ".repeat(232) + "x", 1, 239);
        dueFault("r2 1 1;" + " ".repeat(232) + "t", 1, 240);
        dueFault(" ".repeat(239) + "r", 1, 240);
        dueFault("r2 1 1;" + " ".repeat(232) + "r", 3, 239);
        about("THE RIVER is told in a text (240 letters at most)");
        dueCells("r2 1 1;" + " ".repeat(233), 2);
        dueCells(" ".repeat(233) + "r2 1 1;", 2);
        Law most = Law.on("r6 3 30;t" + "40,".repeat(17) + "40;c" + "9,".repeat(5) + "9;n" + "20,".repeat(11) + "20;"
            + "p1 200;".repeat(6));
        due("the most of all", most.told(3), 6);
    }

    private static void everyLetterFirst() {
        about("1 it cannot stand there (a letter that is no word, another word first than 'r'");
        for (int letter = 0; letter <= 255; letter++) {
            Law law = new Law();
            law.feed(letter);
            law.tell("2 1 1;");
            int river = law.river();
            due("a text of " + letter + " and 2 1 1;", river, letter == 'r' ? 2 : -11);
            due("fault of it", law.fault(), letter == 'r' ? NONE : letter == ' ' ? 1 : 0);
        }
    }

    private static void everyLetterAsWord() {
        about("a word is one letter");
        for (int letter = 0; letter <= 255; letter++) {
            boolean isWord = "tcnp".indexOf(letter) >= 0;
            Law law = new Law();
            law.tell("r2 1 1;");
            law.feed(letter);
            int river = law.river();
            due("behind a clause " + letter, river, letter == ' ' ? 2 : letter == 'r' ? -13 : -11);
            due("fault of it", law.fault(), letter == ' ' ? NONE : isWord ? 8 : 7);
        }
        dueFault("rr2 1 1;", 1, 1);
        dueFault("r2 1 1;tt1;", 1, 8);
        dueFault("r2 1 1;pp0 1;", 1, 8);
    }

    private static void everyLetterInNumbers() {
        about("1 it cannot stand there");
        for (int letter = 0; letter <= 255; letter++) {
            boolean isFigure = letter >= '0' && letter <= '9';
            Law size = new Law();
            size.tell("r2 1 1");
            size.feed(letter);
            due("behind S " + letter, size.river(), letter == ';' ? 2 : -11);
            due("fault of it", size.fault(), letter == ';' ? NONE : isFigure || letter == ' ' ? 7 : 6);
            Law list = new Law();
            list.tell("r2 1 1;t1");
            list.feed(letter);
            due("behind T " + letter, list.river(), letter == ';' ? 2 : -11);
            due("fault of it", list.fault(), letter == ';' ? NONE : isFigure || letter == ' ' || letter == ',' ? 10 : 9);
            Law number = new Law();
            number.tell("r2 1 1;t");
            number.feed(letter);
            number.tell(";");
            due("for T " + letter, number.river(), isFigure ? 2 : -11);
            due("fault of it", number.fault(), isFigure ? NONE : letter == ' ' ? 9 : 8);
            Law person = new Law();
            person.tell("r2 1 1;p0");
            person.feed(letter);
            person.tell("9;");
            due("behind B " + letter, person.river(), letter == ' ' ? 2 : isFigure ? -12 : -11);
            due("fault of it", person.fault(), letter == ' ' ? NONE : isFigure ? 8 : 9);
        }
    }

    // ---- what is told

    private static void size() {
        about("'r' W H S ';' (W COLUMNS from bank to bank, 2 .. 6");
        dueNumbers("r", " 1 1;", 2, 6);
        about("H ROWS along it, 1 .. 3");
        dueNumbers("r2 ", " 1;", 1, 3);
        about("an INCH bears S, 1 .. 30");
        dueNumbers("r2 1 ", ";", 1, 30);
        about("CELL: ROW times W and COLUMN");
        for (int w = 2; w <= 6; w++) {
            for (int h = 1; h <= 3; h++) {
                Law law = new Law();
                due("cells", law.read("r" + w + " " + h + " 30;c0,1,2,3,4,5;"), w * h);
                due("columns", law.told(0), w);
                due("rows", law.told(1), h);
                due("an inch", law.told(2), 30);
                for (int c = 0; c < w * h; c++) {
                    due("column of cell " + c, law.cell(c, 4), c % w);
                }
                due("one cell more", law.cell(w * h, 4), UNKNOWN);
            }
        }
        due("an inch bears 1 at least", Law.on("r2 1 1;t7;").cell(0, 1), 7);
        due("an inch bears 30 at most", Law.on("r2 1 30;t40;").cell(1, 1), 1200);
        about("'r' W H S ';'");
        dueFault("r;", 1, 1);
        dueFault("r2;", 1, 2);
        dueFault("r2 1;", 1, 4);
        dueFault("r2 1 1 1;", 1, 7);
        dueFault("r2,1,1;", 1, 2);
    }

    private static String listed(int from, int count) {
        StringBuilder list = new StringBuilder();
        for (int k = 0; k < count; k++) {
            list.append(k == 0 ? "" : ",").append(from + k);
        }
        return list.toString();
    }

    private static void thick() {
        about("THICK: 1 to 18 numbers, 0 .. 40, INCHES");
        dueNumbers("r2 1 1;t", ";", 0, 40);
        dueNumbers("r2 1 1;t1,", ";", 0, 40);
        dueNumbers("r2 1 1;t" + "1,".repeat(17), ";", 0, 40);
        Law ends = Law.on("r2 1 1;t0,40;");
        due("0 inches", ends.cell(0, 0), 0);
        due("40 inches", ends.cell(1, 0), 40);
        about("CELL k has the one of k left over by how many");
        for (int count = 1; count <= 18; count++) {
            Law law = Law.on("r6 3 1;t" + listed(1, count) + ";");
            for (int c = 0; c < 18; c++) {
                due("cell " + c + " of " + count, law.cell(c, 0), 1 + c % count);
            }
            Law few = Law.on("r2 1 1;t" + listed(1, count) + ";");
            due("more numbers than cells", few.cell(1, 0), count == 1 ? 1 : 2);
        }
        about("10 untold; once)   'c'");
        Law untold = Law.on("r6 3 1;");
        for (int c = 0; c < 18; c++) {
            due("untold cell " + c, untold.cell(c, 0), 10);
        }
        untold.read("r2 1 1;t7,8,9;");
        untold.read("r2 2 1;");
        due("an earlier text's are gone", untold.cell(1, 0), 10);
    }

    private static void current() {
        about("CURRENT by COLUMNS likewise: 1 to 6 numbers, 0 .. 9");
        dueNumbers("r2 1 1;c", ";", 0, 9);
        dueNumbers("r2 1 1;c1,", ";", 0, 9);
        dueNumbers("r2 1 1;c" + "1,".repeat(5), ";", 0, 9);
        for (int w = 2; w <= 6; w++) {
            for (int count = 1; count <= 6; count++) {
                Law law = Law.on("r" + w + " 3 1;c" + listed(4, count) + ";");
                for (int c = 0; c < 3 * w; c++) {
                    due("current of cell " + c + " of " + w + ", " + count, law.cell(c, 4), 4 + c % w % count);
                }
            }
        }
        about("0 untold; once");
        Law untold = Law.on("r6 3 1;");
        for (int c = 0; c < 18; c++) {
            due("untold current " + c, untold.cell(c, 4), 0);
        }
        untold.read("r2 1 1;c7,8,9;");
        untold.read("r2 2 1;");
        due("an earlier text's are gone", untold.cell(1, 4), 0);
    }

    private static void nights() {
        about("NIGHTS: 1 to 12 numbers, 0 .. 20: NIGHT k has COLD K less 10 of k left over by how many");
        dueNumbers("r2 1 1;n", ";", 0, 20);
        dueNumbers("r2 1 1;n1,", ";", 0, 20);
        dueNumbers("r2 1 1;n" + "1,".repeat(11), ";", 0, 20);
        for (int count = 1; count <= 12; count++) {
            Law law = Law.on("r2 1 1;n" + listed(9, count) + ";");
            for (int k = 0; k <= 40; k++) {
                due("night " + k + " of " + count, law.cold(k), 9 + k % count);
            }
            due("night 9999 of " + count, law.cold(9999), 9 + 9999 % count);
        }
        about("10 untold; once)   'p'");
        Law untold = Law.on("r2 1 1;");
        due("untold", untold.cold(0), 10);
        due("untold", untold.cold(9999), 10);
        untold.read("r2 1 1;n7,8,9;");
        untold.read("r2 2 1;");
        due("an earlier text's are gone", untold.cold(1), 10);
    }

    private static void persons() {
        about("'p' B W ';' (6 PERSONS at most: town B, 0 left, 1 right; WEIGHT W, 1 .. 200)");
        dueNumbers("r2 1 1;p", " 1;", 0, 1);
        dueNumbers("r2 1 1;p0 ", ";", 1, 200);
        dueNumbers("r2 1 1;" + "p0 1;".repeat(5) + "p1 ", ";", 1, 200);
        StringBuilder text = new StringBuilder("r2 1 1;");
        for (int count = 1; count <= 6; count++) {
            text.append("p").append(count % 2).append(" ").append(count == 6 ? 200 : count).append(";");
            Law law = Law.on(text.toString());
            due("persons", law.told(3), count);
            for (int p = 0; p < count; p++) {
                due("town of " + p, law.person(p, 0), (p + 1) % 2);
                due("weight of " + p, law.person(p, 1), p == 5 ? 200 : p + 1);
            }
            due("one person more", law.person(count, 0), UNKNOWN);
        }
        due("no persons", Law.on("r2 1 1;").told(3), 0);
        dueFault("r2 1 1;p;", 1, 8);
        dueFault("r2 1 1;p0;", 1, 9);
        dueFault("r2 1 1;p0 1 1;", 1, 12);
        dueFault("r2 1 1;p0,1;", 1, 9);
        Law gone = Law.on("r2 1 1;p0 1;p1 2;");
        due("an earlier text's are gone", gone.read("r2 1 1;p1 3;"), 2);
        due("an earlier text's are gone", gone.told(3), 1);
        due("an earlier text's are gone", gone.person(0, 1), 3);
    }

    private static void figures() {
        about("NUMBERS have one to three figures");
        dueCells("r2 1 1;t0,00,000;", 2);
        dueCells("r002 001 001;t040;c009;n020;p001 001;", 2);
        about("2 a NUMBER of four figures or more, or out of its bounds (at its first).");
        dueFault("r2 1 1;t0000;", 2, 8);
        dueFault("r2 1 1;t0,0000;", 2, 10);
        dueFault("r2 1 1;t0001", 2, 8);
        dueFault("r2 1 1;t 0001x", 2, 9);
        dueFault("r2 1 1;p0 0001;", 2, 10);
        dueFault("r2 1 1;t41", 2, 8);
        dueFault("r2 1 1;t41x", 2, 8);
        dueFault("r7", 2, 1);
    }

    private static boolean isFigure(char sign) {
        return sign >= '0' && sign <= '9';
    }

    private static void blanks() {
        about("blanks (32) may stand anywhere but within NUMBERS; two NUMBERS side by side need one.");
        for (int at = 0; at <= WHOLE.length(); at++) {
            boolean isWithin = at > 0 && at < WHOLE.length() && isFigure(WHOLE.charAt(at - 1)) && isFigure(WHOLE.charAt(at));
            for (int many = 1; many <= 3; many++) {
                String text = WHOLE.substring(0, at) + " ".repeat(many) + WHOLE.substring(at);
                if (isWithin) {
                    dueFault(text, 1, at + many);
                } else {
                    dueWhole(text);
                }
            }
        }
        dueFault("r42 10;", 2, 1);
        dueFault("r4 210;", 2, 3);
        dueFault("r2 1 1;p0200;", 2, 8);
        dueFault("r2 1 1;p020;", 2, 8);
        for (int other : new int[] {0, 9, 10, 13, 160, 255}) {
            dueFault("r2 1 1;" + (char) other, 1, 7);
            dueFault((char) other + "r2 1 1;", 1, 0);
            dueFault("r2" + (char) other + "1 1;", 1, 2);
        }
    }

    /** The text tells what WHOLE tells. */
    private static void dueWhole(String text) {
        Law law = new Law();
        due("river of '" + text + "'", law.read(text), 8);
        int[] answers = {law.told(0), law.told(1), law.told(2), law.told(3), law.cell(0, 0), law.cell(1, 0), law.cell(0, 4),
            law.cell(1, 4), law.cold(0), law.cold(1), law.person(0, 1), law.person(1, 1)};
        int[] wanted = {4, 2, 10, 2, 12, 3, 1, 2, 15, 0, 70, 200};
        for (int k = 0; k < wanted.length; k++) {
            due("answer " + k + " of '" + text + "'", answers[k], wanted[k]);
        }
    }

    // ---- faults

    private static void firstFault() {
        about("FAULTS, at the first letter that has one");
        dueFault("x7 1 1;", 1, 0);
        dueFault("r7 4 31;", 2, 1);
        dueFault("r2 4 31;x", 2, 3);
        dueFault("r2 1 31 r", 2, 5);
        dueFault("r2 1 1;r t41;", 3, 7);
        dueFault("r2 1 1;t41;t1;x", 2, 8);
        dueFault("r2 1 1;t1;t41;", 3, 10);
        dueFault("r2 1 1;t1;x;t1;", 1, 10);
        dueFault("r2 1 1;t1,41,x;", 2, 10);
        dueFault("r2 1 1;t1,x,41;", 1, 10);
        dueFault("r2 1 1;p2 201;", 2, 8);
        dueFault("r2 1 1;p1 201 x", 2, 10);
    }

    private static void leastFault() {
        about("of these the least");
        dueFault("r2 1 1 9999;", 1, 7);
        dueFault("r2 1 1 r", 1, 7);
        dueFault("r2 1 1;t1 41;", 1, 10);
        dueFault("r2 1 1;t1;t1 t", 3, 10);
        dueFault("r2 1 1;t1 t", 1, 10);
        dueFault("r2 1 1;9999", 1, 7);
        dueFault("9999", 1, 0);
        dueFault("r2 1 1;p0 1 201;", 1, 12);
        dueFault("r2 1 1;" + "p0 1;".repeat(5) + "p0 1 p", 1, 37);
        dueFault("t41;t41;", 1, 0);
    }

    private static void lengthOfLists() {
        about("a 19th T, a seventh C, a 13th K: at its ','");
        dueLengths('t', 18);
        dueLengths('c', 6);
        dueLengths('n', 12);
    }

    private static void dueLengths(char word, int most) {
        String start = "r6 3 1;" + word;
        dueFault(start + ";", 1, 8);
        dueFault(start, 1, 8);
        dueFault(start + ",1;", 1, 8);
        for (int count = 1; count <= most; count++) {
            String list = start + "1,".repeat(count - 1) + "1";
            dueCells(list + ";", 18);
            dueFault(list, 1, list.length());
            dueFault(list + ",;", 1, list.length() + (count == most ? 0 : 1));
            dueFault(list + ",,1;", 1, list.length() + (count == most ? 0 : 1));
        }
        String full = start + "1,".repeat(most - 1) + "1";
        for (String more : new String[] {",1;", ",1,1;", ",1,1,1,1,1,1,1,1,1;", ",", ",99;", ",9999;", ",x"}) {
            dueFault(full + more, 1, full.length());
            dueFault(full + "  " + more, 1, full.length() + 2);
        }
    }

    private static void again() {
        about("3 'r', 't', 'c', 'n' again, a seventh 'p' (at it).");
        String[] clauses = {"r2 1 1;", "t1;", "c1;", "n1;"};
        for (String clause : clauses) {
            String start = clause.equals(clauses[0]) ? clause : clauses[0] + clause;
            dueFault(start + clause, 3, start.length());
            dueFault(start + "  " + clause, 3, start.length() + 2);
            dueFault(start + clause.charAt(0), 3, start.length());
            dueFault(start + "p0 1;" + clause, 3, start.length() + 5);
            dueFault(start + clause.charAt(0) + "x", 3, start.length());
        }
        dueCells("r2 1 1;t1;c1;n1;p0 1;", 2);
        dueCells("r2 1 1;p0 1;n1;c1;t1;", 2);
        String six = "r2 1 1;" + "p0 1;".repeat(6);
        dueCells(six, 2);
        dueCells(six + "t1;c1;n1;", 2);
        for (String more : new String[] {"p0 1;", "p", "p2 201;", "px"}) {
            dueFault(six + more, 3, six.length());
            dueFault(six + "t1; " + more, 3, six.length() + 4);
        }
        dueCells("r2 1 1;t0;", 2);
        dueFault("r2 1 1;t0;t0;", 3, 10);
        dueFault("r2 1 1;c0;c0;", 3, 10);
        dueFault("r2 1 1;n0;n0;", 3, 10);
    }

    private static void endOfText() {
        about("(the end at the text's length)");
        for (int length = 0; length <= WHOLE.length(); length++) {
            String text = WHOLE.substring(0, length);
            if (length == 0) {
                dueCells(text, 0);
            } else if (text.endsWith(";")) {
                dueCells(text, 8);
            } else {
                dueFault(text, 1, length);
                dueFault(text + "  ", 1, length + 2);
            }
        }
    }

    private static void emptyText() {
        about("An empty text: no RIVER.");
        Law law = new Law();
        due("river()", law.river(), 0);
        due("fault()", law.fault(), NONE);
        due("told(0)", law.told(0), 0);
        Law gone = Law.on(WHOLE);
        gone.step(0, 0);
        gone.salt(1, 1, 60);
        gone.see(1, true);
        gone.write(0, 1);
        gone.seed(7);
        gone.keep(0);
        gone.night(1);
        gone.snow(0, true);
        due("river() behind a river", gone.river(), 0);
        for (int what = 0; what <= 15; what++) {
            due("no river: told(" + what + ")", gone.told(what), what == 6 || what == 12 ? NONE : 0);
        }
        due("cell(0, 0)", gone.cell(0, 0), UNKNOWN);
        due("person(0, 0)", gone.person(0, 0), UNKNOWN);
        due("cold(0)", gone.cold(0), NOT);
        due("night(1)", gone.night(1), NOT);
        due("spring()", gone.spring(), NOT);
        due("drift(1)", gone.drift(1), NOT);
        due("undo()", gone.undo(), NOT);
        due("goBack(0)", gone.goBack(0), NOT);
        due("the seed stays", gone.seed(0), 7);
        due("a river again", gone.read("r2 1 1;"), 2);
        emptyBehindMany();
        // Blanks alone have no clause, so they are read as an empty text.
        dueCells("   ", 0);
    }

    /** Nothing of any earlier text is left, whether it became a river or had a fault. */
    private static void emptyBehindMany() {
        String[] texts = {"r6 3 30;t1;c9;n20;p1 200;", "r5 2 20;p0 1;", "r4 3 7;t5;x", "r3 2 9;p1 9"};
        Law law = new Law();
        for (String text : texts) {
            law.read(text);
            law.river();
            for (int what = 0; what <= 15; what++) {
                due("behind '" + text + "': told(" + what + ")", law.told(what), what == 6 || what == 12 ? NONE : 0);
            }
            due("cell(0, 0)", law.cell(0, 0), UNKNOWN);
            due("person(0, 0)", law.person(0, 0), UNKNOWN);
        }
        Law bare = new Law();
        for (String text : texts) {
            bare.read(text);
            due("a bare river behind '" + text + "'", bare.read("r2 1 1;"), 2);
            due("thick", bare.cell(1, 0), 10);
            due("current", bare.cell(1, 4), 0);
            due("cold", bare.cold(0), 10);
            due("persons", bare.told(3), 0);
        }
    }

    // ---- river(), fault()

    private static void textBehindRiver() {
        about("THE TEXT (it is empty then, with a FAULT, too) becomes THE RIVER");
        Law law = new Law();
        law.tell("r2 1 1;");
        due("letters", law.told(4), 7);
        law.river();
        due("letters behind a river", law.told(4), 0);
        law.tell("r2 1 1;x");
        due("letters", law.told(4), 8);
        due("a fault", law.river(), -11);
        due("letters behind a fault", law.told(4), 0);
        due("nothing is left of it", law.read("r3 1 1;"), 3);
        due("the first letter again", law.feed('r'), 1);
    }

    private static void riverAnew() {
        about("(NIGHT 0, nobody's, all on their banks, no SNOW; nothing SEEN, no BOOK; IMAGES, what could be undone are gone; THE SEED stays)");
        Law law = Law.on("r3 1 10;t8;n12;p0 60;p1 80;p0 1;");
        law.night(3);
        law.step(0, 0);
        law.step(1, 2);
        law.salt(1, 2, 60);
        law.see(3, true);
        law.write(0, 3);
        law.seed(77);
        law.keep(0);
        law.keep(1);
        law.snow(1, true);
        law.night(1);
        due("river()", law.read("r3 1 10;t8;p0 60;p1 80;p0 1;"), 3);
        int[] none = {4, 5, 7, 8, 9, 10, 11, 13, 14, 15};
        for (int what : none) {
            due("anew: told(" + what + ")", law.told(what), 0);
        }
        due("nobody's", law.told(6), NONE);
        for (int p = 0; p < 3; p++) {
            due("on its bank: " + p, law.person(p, 2), NONE);
        }
        due("inches as told", law.cell(0, 0), 8);
        due("undo()", law.undo(), NOT);
        due("goBack(0)", law.goBack(0), NOT);
        due("goBack(1)", law.goBack(1), NOT);
        due("nothing seen", law.who(0), 8);
        due("no book", law.judge(), NONE);
        due("the seed stays", law.seed(0), 77);
    }

    private static void riverWithFault() {
        about("-10 less the number of its FAULT (all else is as it was)");
        Law law = Law.on("r3 1 10;t8;n12;p0 60;p1 80;");
        law.keep(1);
        law.night(3);
        law.step(0, 0);
        law.salt(1, 2, 60);
        law.snow(1, true);
        law.see(3, true);
        law.write(0, 3);
        law.seed(77);
        String[] faults = {"x", "r9", "r2 1 1;r", "r2 1 1;t1;p1 1;p1 1;p1 1;x"};
        int[] numbers = {-11, -12, -13, -11};
        int[] letters = {0, 1, 7, 25};
        for (int k = 0; k < faults.length; k++) {
            due("river of " + faults[k], law.read(faults[k]), numbers[k]);
            due("fault of " + faults[k], law.fault(), letters[k]);
            int[] wanted = {3, 1, 10, 2, 0, 3, 1, 4, 2, 0, 0, 1, 0, 1, 1, 4};
            for (int what = 0; what < wanted.length; what++) {
                due("as it was: told(" + what + ")", law.told(what), wanted[what]);
            }
            due("as it was: inches", law.cell(0, 0), 14);
            due("as it was: where", law.person(0, 2), 0);
            due("as it was: cold", law.cold(0), 12);
            due("as it was: seed", law.seed(77), 77);
        }
        due("as it was: undone", law.undo(), 3);
        due("as it was: image", law.goBack(1), 1);
        due("as it was: nights", law.told(5), 0);
        Law none = new Law();
        due("a fault without a river", none.read("r9"), -12);
        due("no river", none.told(0), 0);
    }

    private static void faultOfLatest() {
        about("The letter of the FAULT of the latest river(); NONE.");
        Law law = new Law();
        due("none yet", law.fault(), NONE);
        law.tell("r9");
        due("not read yet", law.fault(), NONE);
        law.river();
        due("the latest", law.fault(), 1);
        law.tell("r2 1 1;x");
        due("still the latest", law.fault(), 1);
        law.river();
        due("the latest", law.fault(), 7);
        due("asked again", law.fault(), 7);
        law.read("r2 1 1;");
        due("none now", law.fault(), NONE);
        law.read("x");
        due("the first letter", law.fault(), 0);
        law.river();
        due("none of an empty text", law.fault(), NONE);
    }

    // ---- told(), cell(), person(), cold()

    private static void toldBounds() {
        about("0 COLUMNS, 1 ROWS, 2 S, 3 PERSONS, 4 letters of THE TEXT, 5 NIGHTS");
        for (Law law : new Law[] {new Law(), Law.on(WHOLE)}) {
            for (int what : Check.outside(0, 15)) {
                due("told(" + what + ")", law.told(what), OUTSIDE);
            }
            for (int what = 0; what <= 15; what++) {
                due("told(" + what + ") is taken", law.told(what) < NONE ? 1 : 0, 0);
            }
        }
    }

    private static void cellBounds() {
        about("Of a CELL: what = 0 INCHES, 1 what it BEARS, 2 LOAD, 3 who is on it (a SET of PERSONS), 4 CURRENT, 5 SPARE, and 10000. UNKNOWN, OUTSIDE.");
        for (String text : new String[] {"r2 1 1;", "r6 3 30;"}) {
            Law law = new Law();
            int cells = law.read(text);
            for (int c : Check.outside(0, cells - 1)) {
                due("cell(" + c + ", 0)", law.cell(c, 0), UNKNOWN);
                due("cell(" + c + ", 6): the first refusal", law.cell(c, 6), UNKNOWN);
            }
            for (int what : Check.outside(0, 5)) {
                due("cell(0, " + what + ")", law.cell(0, what), OUTSIDE);
                due("cell of the last, " + what, law.cell(cells - 1, what), OUTSIDE);
            }
            due("inches of the last", law.cell(cells - 1, 0), 10);
            due("spare of the first", law.cell(0, 5), 10000 + law.told(2) * 10);
        }
        due("cell(0, 6) without a river", new Law().cell(0, 6), UNKNOWN);
        about("SPARE: what a CELL BEARS less its LOAD.");
        // A hole with all six beside it: half of 1200.
        Law hole = Law.on("r2 1 30;t40,0;" + "p0 200;".repeat(6));
        for (int p = 0; p < 6; p++) {
            due("step", hole.step(p, 0), 0);
        }
        due("the least spare", hole.cell(1, 5), 9400);
        due("no spare", hole.cell(0, 5), 10000);
        due("all six on it", hole.cell(0, 3), 63);
        due("the most load", hole.cell(0, 2), 1200);
        Law spare = Law.on("r2 1 30;t40;n20;");
        spare.night(2);
        due("the most spare", spare.cell(1, 5), 11800);
    }

    private static void personBounds() {
        about("Of a PERSON: what = 0 the town, 1 WEIGHT, 2 the CELL (NONE: on the bank; -2: DROWNED). UNKNOWN, OUTSIDE.");
        for (int persons = 1; persons <= 6; persons += 5) {
            Law law = Law.on("r2 1 1;" + "p1 9;".repeat(persons));
            for (int p : Check.outside(0, persons - 1)) {
                due("person(" + p + ", 0)", law.person(p, 0), UNKNOWN);
                due("person(" + p + ", 3): the first refusal", law.person(p, 3), UNKNOWN);
            }
            for (int what : Check.outside(0, 2)) {
                due("person(0, " + what + ")", law.person(0, what), OUTSIDE);
                due("person of the last, " + what, law.person(persons - 1, what), OUTSIDE);
            }
            due("the last one's town", law.person(persons - 1, 0), 1);
            due("the last one's weight", law.person(persons - 1, 1), 9);
            due("the last one's bank", law.person(persons - 1, 2), NONE);
            due("on the last cell", law.step(persons - 1, 1), 0);
            due("on the last cell", law.person(persons - 1, 2), 1);
            law.salt(0, 1, 60);
            due("drowned", law.person(persons - 1, 2), -2);
        }
        due("a river without persons", Law.on("r2 1 1;").person(0, 0), UNKNOWN);
        due("person(0, 3) without a river", new Law().person(0, 3), UNKNOWN);
    }

    private static void coldBounds() {
        about("COLD of NIGHT k (0 .. 9999), and 10. OUTSIDE, NOT: no RIVER.");
        Law law = Law.on("r2 1 1;n0,20,7;");
        Law none = new Law();
        for (int k : Check.outside(0, 9999)) {
            due("cold(" + k + ")", law.cold(k), OUTSIDE);
            due("cold(" + k + ") without a river: the first refusal", none.cold(k), OUTSIDE);
        }
        due("the first", law.cold(0), 0);
        due("the last but one", law.cold(9998), 7);
        due("the last", law.cold(9999), 0);
        due("the greatest", law.cold(1), 20);
        due("no river", none.cold(0), NOT);
        due("no river", none.cold(9999), NOT);
        law.night(1);
        due("by its own number, not from now", law.cold(0), 0);
    }
}
