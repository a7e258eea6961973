import java.util.Random;

/** Random runs of up to 512 calls on one object, each answered by the class and by the model, and compared. */
public final class ModelTest {
    private static final int RUNS = 8000;
    /** The calls that askAll makes at most, kept for the end of each run: nothing is promised behind the 512th. */
    private static final int CLOSING = 120;

    private final Random random;
    private final Law law = new Law();
    private final Model model = new Model();
    private final StringBuilder told = new StringBuilder();
    private final int run;

    private ModelTest(int run) {
        this.run = run;
        this.random = new Random(run);
    }

    public static void main(String[] args) {
        int runs = args.length > 0 ? Integer.parseInt(args[0]) : RUNS;
        for (int run = 0; run < runs; run++) {
            new ModelTest(run).goOn();
        }
        Check.end("ModelTest");
    }

    private void goOn() {
        if (random.nextInt(20) > 0) {
            readText(validText());
        }
        while (law.left() > CLOSING) {
            act(random.nextInt(100));
            if (random.nextInt(4) == 0) {
                ask();
            }
        }
        askAll();
    }

    private void due(String call, int got, int want) {
        if (told.length() > 1500) {
            told.delete(0, told.length() - 1500);
        }
        told.append(call).append(" -> ").append(want).append("; ");
        Check.due("run " + run + " behind " + (got == want ? "" : told.toString()) + call, got, want);
    }

    // ---- numbers, mostly within their bounds

    private int number(int least, int most) {
        int kind = random.nextInt(40);
        if (kind == 0) return least - 1;
        if (kind == 1) return most + 1;
        if (kind == 2) return random.nextInt();
        if (kind == 3) return random.nextBoolean() ? Integer.MIN_VALUE : Integer.MAX_VALUE;
        if (kind == 4) return random.nextBoolean() ? least : most;
        return least + random.nextInt(most - least + 1);
    }

    private int cell() {
        return number(0, Math.max(0, model.told.cells() - 1));
    }

    private int person() {
        return number(0, Math.max(0, model.told.persons.size() - 1));
    }

    // ---- texts

    private void readText(String text) {
        if (law.left() < text.length() + 2 + CLOSING) {
            return;
        }
        for (int k = 0; k < text.length(); k++) {
            due("feed(" + (int) text.charAt(k) + ")", law.feed(text.charAt(k)), model.feed(text.charAt(k)));
        }
        due("river()", law.river(), model.river());
        due("fault()", law.fault(), model.faultAt);
    }

    private String blanks() {
        return random.nextInt(12) == 0 ? " ".repeat(1 + random.nextInt(2)) : "";
    }

    private int among(int least, int most) {
        return least + random.nextInt(most - least + 1);
    }

    private String list(char word, int size, int least, int most) {
        StringBuilder list = new StringBuilder().append(word);
        int count = among(1, size);
        for (int k = 0; k < count; k++) {
            list.append(k == 0 ? "" : ",").append(blanks()).append(among(least, most)).append(blanks());
        }
        return list.append(';').append(blanks()).toString();
    }

    private String validText() {
        boolean weak = random.nextBoolean();
        StringBuilder text = new StringBuilder(blanks());
        text.append('r').append(blanks()).append(among(2, 6)).append(' ').append(among(1, 3)).append(' ');
        text.append(weak ? among(1, 10) : among(1, 30)).append(blanks()).append(';').append(blanks());
        if (random.nextInt(6) > 0) text.append(list('t', 18, random.nextInt(3) == 0 ? 0 : 4, weak ? 20 : 40));
        if (random.nextInt(3) > 0) text.append(list('c', 6, 0, random.nextBoolean() ? 2 : 9));
        int coldest = random.nextInt(3) == 0 ? 0 : 7;
        if (random.nextInt(6) > 0) text.append(list('n', 12, coldest, random.nextBoolean() ? 14 : 20));
        int persons = among(0, 6);
        for (int p = 0; p < persons; p++) {
            text.append('p').append(blanks()).append(among(0, 1)).append(' ');
            text.append(weak ? among(1, 200) : among(60, 200)).append(blanks()).append(';');
        }
        return text.length() > 240 ? "r3 2 10;p0 99;p1 120;p0 30;" : text.toString();
    }

    private String wrongText() {
        StringBuilder text = new StringBuilder(validText());
        int changes = among(1, 3);
        String signs = "rtcnp;;,,  0123456789x";
        for (int k = 0; k < changes && text.length() > 0; k++) {
            int at = random.nextInt(text.length());
            char sign = random.nextInt(30) == 0 ? (char) random.nextInt(256) : signs.charAt(random.nextInt(signs.length()));
            int kind = random.nextInt(4);
            if (kind == 0) text.setCharAt(at, sign);
            else if (kind == 1) text.insert(at, sign);
            else if (kind == 2) text.deleteCharAt(at);
            else text.setLength(random.nextInt(3) == 0 ? at : text.length());
        }
        return text.toString();
    }

    private String overlongText() {
        String start = "r2 1 1;" + (random.nextBoolean() ? "p0 5;".repeat(among(5, 7)) : "");
        char word = "tcn".charAt(random.nextInt(3));
        return start + word + "1,".repeat(among(4, 18)) + "1;";
    }

    // ---- calls

    private void act(int kind) {
        if (kind < 8) {
            int n = number(1, random.nextInt(4) == 0 ? 60 : 4);
            due("night(" + n + ")", law.night(n), model.night(n));
        } else if (kind < 55) {
            int p = person();
            int c = random.nextInt(3) == 0 ? wayOf(p) : random.nextInt(9) == 0 ? -1 : cell();
            due("step(" + p + ", " + c + ")", law.step(p, c), model.step(p, c));
        } else if (kind < 65) {
            int b = number(0, 1);
            int c = cell();
            int n = number(1, random.nextInt(6) == 0 ? 60 : 6);
            due("salt(" + b + ", " + c + ", " + n + ")", law.salt(b, c, n), model.salt(b, c, n));
        } else if (kind < 72) {
            int c = cell();
            boolean is = random.nextBoolean();
            due("snow(" + c + ", " + is + ")", law.snow(c, is), model.snow(c, is));
        } else if (kind < 74) {
            due("spring()", law.spring(), model.spring());
        } else if (kind < 78) {
            int n = number(1, random.nextInt(4) == 0 ? 60 : 9);
            due("drift(" + n + ")", law.drift(n), model.drift(n));
        } else if (kind < 88) {
            due("undo()", law.undo(), model.undo());
        } else {
            actRarely(kind);
        }
    }

    private void actRarely(int kind) {
        int i = number(0, 1);
        if (kind < 90) {
            int v = random.nextInt(3) == 0 ? number(0, 2147483646) : random.nextInt() >>> 1;
            due("seed(" + v + ")", law.seed(v), model.seed(v));
        } else if (kind < 92) {
            due("keep(" + i + ")", law.keep(i), model.keep(i));
        } else if (kind < 94) {
            due("goBack(" + i + ")", law.goBack(i), model.goBack(i));
        } else if (kind < 96) {
            int t = number(1, 30);
            boolean broke = random.nextBoolean();
            due("see(" + t + ", " + broke + ")", law.see(t, broke), model.see(t, broke));
        } else if (kind < 98) {
            int c = cell();
            int inches = model.isCell(c) && random.nextInt(3) > 0 ? model.now.inches[c] : number(0, 60);
            due("write(" + c + ", " + inches + ")", law.write(c, inches), model.write(c, inches));
        } else if (kind == 98) {
            if (random.nextBoolean()) due("tear()", law.tear(), model.tear());
        } else {
            int text = random.nextInt(8);
            readText(text == 0 ? "" : text == 1 ? overlongText() : text < 5 ? wrongText() : validText());
        }
    }

    /** A cell to which the person can step, if there is one. */
    private int wayOf(int p) {
        if (model.isPerson(p)) {
            int from = random.nextInt(Math.max(1, model.told.cells()));
            for (int k = 0; k < model.told.cells(); k++) {
                int c = (from + k) % model.told.cells();
                if (model.mayGo(model.now, p, c)) return c;
            }
        }
        return cell();
    }

    private void ask() {
        int c = cell();
        int p = person();
        int n = number(0, 60);
        int weight = number(1, random.nextBoolean() ? 999 : 200);
        int what = number(0, 1);
        int k = number(0, 9999);
        switch (random.nextInt(16)) {
            case 0 -> due("cold(" + k + ")", law.cold(k), model.cold(k));
            case 1 -> due("then(" + c + ", " + n + ")", law.then(c, n), model.then(c, n));
            case 2 -> due("when(" + c + ", " + weight + ")", law.when(c, weight), model.when(c, weight));
            case 3 -> due("noMore(" + c + ", " + weight + ")", law.noMore(c, weight), model.noMore(c, weight));
            case 4 -> due("over(" + p + ", " + what + ")", law.over(p, what), model.over(p, what));
            case 5 -> due("fewest(" + c + ")", law.fewest(c), model.fewest(c));
            case 6 -> due("leastSalt(" + c + ")", law.leastSalt(c), model.leastSalt(c));
            case 7 -> due("lives(" + p + ", " + what + ")", law.lives(p, what), model.lives(p, what));
            case 8 -> due("heard(" + c + ")", law.heard(c), model.heard(c));
            case 9 -> game(what);
            case 10 -> due("tolls", law.tolls(n, weight), model.tolls(n, weight));
            case 11 -> due("thaw(" + n + ", " + weight + ")", law.thaw(n, weight), model.thaw(n, weight));
            case 12 -> due("who(" + what + ")", law.who(what), model.who(what));
            case 13 -> due("ask()", law.ask(), model.ask());
            case 14 -> due("cell(" + c + ", " + k + ")", law.cell(c, k), model.cell(c, k));
            default -> {
                if (law.left() > 2 * CLOSING) askAll();
            }
        }
    }

    private void game(int what) {
        int most = random.nextBoolean() ? 99 : 4;
        int a = number(0, most);
        int b = number(0, most);
        int c = number(0, most);
        int d = number(0, most);
        due("game(" + a + ", " + b + ", " + c + ", " + d + ", " + what + ")", law.game(a, b, c, d, what), model.game(a, b, c, d, what));
    }

    /** All of what is so, and of each cell and person one thing that is tried. */
    private void askAll() {
        for (int what = -1; what <= 16; what++) {
            due("told(" + what + ")", law.told(what), model.told(what));
        }
        for (int c = -1; c <= model.told.cells(); c++) {
            due("cell(" + c + ", 0)", law.cell(c, 0), model.cell(c, 0));
            int what = among(-1, 6);
            due("cell(" + c + ", " + what + ")", law.cell(c, what), model.cell(c, what));
            tryCell(c);
        }
        for (int p = -1; p <= model.told.persons.size(); p++) {
            int what = among(-1, 3);
            due("person(" + p + ", 2)", law.person(p, 2), model.person(p, 2));
            due("person(" + p + ", " + what + ")", law.person(p, what), model.person(p, what));
            tryPerson(p, number(0, 1));
        }
        for (int what = -1; what <= 3; what++) {
            due("who(" + what + ")", law.who(what), model.who(what));
        }
        due("ask()", law.ask(), model.ask());
        due("judge()", law.judge(), model.judge());
        due("tolls(9, 9)", law.tolls(9, 9), model.tolls(9, 9));
        due("fault()", law.fault(), model.faultAt);
    }

    private void tryCell(int c) {
        switch (random.nextInt(3)) {
            case 0 -> due("heard(" + c + ")", law.heard(c), model.heard(c));
            case 1 -> due("fewest(" + c + ")", law.fewest(c), model.fewest(c));
            default -> due("leastSalt(" + c + ")", law.leastSalt(c), model.leastSalt(c));
        }
    }

    private void tryPerson(int p, int what) {
        if (random.nextBoolean()) {
            due("over(" + p + ", " + what + ")", law.over(p, what), model.over(p, what));
        } else {
            due("lives(" + p + ", " + what + ")", law.lives(p, what), model.lives(p, what));
        }
    }
}
