import java.util.ArrayDeque;
import java.util.ArrayList;
import java.util.Arrays;
import java.util.Deque;
import java.util.HashMap;
import java.util.List;
import java.util.Map;
import java.util.TreeSet;

/** The document told a second time, slowly and with the Java library, to be compared with the class. */
final class Model {
    static final int NONE = -1, UNKNOWN = -1000000001, OUTSIDE = -1000000002, NOT = -1000000003, FULL = -1000000004;

    record Person(int town, int weight) { }
    record Token(char kind, int at, int value, int figures) { }
    record Sight(int inches, boolean broke) { }
    record Entry(int cell, int inches) { }
    record Kept(State state, long seed) { }

    static final class Fault extends RuntimeException {
        private static final long serialVersionUID = 1L;
        final int number;
        final int at;

        Fault(int number, int at) {
            this.number = number;
            this.at = at;
        }
    }

    static final class Told {
        int w;
        int h;
        int s;
        List<Integer> thick = new ArrayList<>();
        List<Integer> current = new ArrayList<>();
        List<Integer> cold = new ArrayList<>();
        List<Person> persons = new ArrayList<>();

        int cells() {
            return w * h;
        }

        boolean areNext(int a, int b) {
            return Math.abs(a / w - b / w) + Math.abs(a % w - b % w) == 1;
        }
    }

    static final class State {
        int[] inches = new int[0];
        int[] at = new int[0];
        TreeSet<Integer> snow = new TreeSet<>();
        int nights;
        int owner = NONE;
        int broke;

        State copy() {
            State other = new State();
            other.inches = inches.clone();
            other.at = at.clone();
            other.snow = new TreeSet<>(snow);
            other.nights = nights;
            other.owner = owner;
            other.broke = broke;
            return other;
        }
    }

    StringBuilder text = new StringBuilder();
    Told told = new Told();
    State now = new State();
    Deque<State> past = new ArrayDeque<>();
    Map<Integer, Kept> images = new HashMap<>();
    List<Sight> seen = new ArrayList<>();
    List<Entry> book = new ArrayList<>();
    long seed = 0;
    int faultAt = NONE;

    // ---- the text

    int feed(int letter) {
        if (letter < 0 || letter > 255) return OUTSIDE;
        if (text.length() == 240) return FULL;
        text.append((char) letter);
        return text.length();
    }

    int river() {
        String all = text.toString();
        text.setLength(0);
        Told next;
        try {
            next = parse(all);
        } catch (Fault fault) {
            faultAt = fault.at;
            return -10 - fault.number;
        }
        faultAt = NONE;
        told = next;
        now = new State();
        now.inches = new int[told.cells()];
        for (int c = 0; c < told.cells(); c++) now.inches[c] = told.thick.get(c % told.thick.size());
        now.at = new int[told.persons.size()];
        Arrays.fill(now.at, -1);
        past.clear();
        images.clear();
        seen.clear();
        book.clear();
        return told.cells();
    }

    private static List<Token> tokens(String all) {
        List<Token> tokens = new ArrayList<>();
        int k = 0;
        while (k < all.length()) {
            char sign = all.charAt(k);
            int from = k;
            if (sign >= '0' && sign <= '9') {
                while (k < all.length() && all.charAt(k) >= '0' && all.charAt(k) <= '9') k++;
                int figures = k - from;
                tokens.add(new Token('9', from, figures > 3 ? 0 : Integer.parseInt(all.substring(from, k)), figures));
            } else {
                if (sign != ' ') tokens.add(new Token(sign, from, 0, 0));
                k++;
            }
        }
        tokens.add(new Token('\uffff', all.length(), 0, 0));
        return tokens;
    }

    private static Told parse(String all) {
        Told told = new Told();
        Deque<Token> left = new ArrayDeque<>(tokens(all));
        while (left.size() > 1) {
            Token word = left.poll();
            boolean isFirst = told.w == 0;
            if (isFirst != (word.kind == 'r')) throw new Fault(word.kind == 'r' ? 3 : isFirst || "tcnp".indexOf(word.kind) < 0 ? 1 : 0, word.at);
            if (word.kind == 'r') {
                int w = number(left, 2, 6);
                told.h = number(left, 1, 3);
                told.s = number(left, 1, 30);
                told.w = w;
                semicolon(left);
            } else if (word.kind == 't') {
                numbers(left, told.thick, word, 18, 40);
            } else if (word.kind == 'c') {
                numbers(left, told.current, word, 6, 9);
            } else if (word.kind == 'n') {
                numbers(left, told.cold, word, 12, 20);
            } else if (word.kind == 'p') {
                if (told.persons.size() == 6) throw new Fault(3, word.at);
                int town = number(left, 0, 1);
                told.persons.add(new Person(town, number(left, 1, 200)));
                semicolon(left);
            } else {
                throw new Fault(1, word.at);
            }
        }
        if (told.thick.isEmpty()) told.thick.add(10);
        if (told.current.isEmpty()) told.current.add(0);
        if (told.cold.isEmpty()) told.cold.add(10);
        return told;
    }

    private static int number(Deque<Token> left, int least, int most) {
        Token token = left.peek();
        if (token.kind != '9') throw new Fault(1, token.at);
        if (token.figures > 3 || token.value < least || token.value > most) throw new Fault(2, token.at);
        left.poll();
        return token.value;
    }

    private static void numbers(Deque<Token> left, List<Integer> into, Token word, int size, int most) {
        if (!into.isEmpty()) throw new Fault(3, word.at);
        into.add(number(left, 0, most));
        while (left.peek().kind == ',' && into.size() < size) {
            left.poll();
            into.add(number(left, 0, most));
        }
        semicolon(left);
    }

    private static void semicolon(Deque<Token> left) {
        if (left.peek().kind != ';') throw new Fault(1, left.peek().at);
        left.poll();
    }

    // ---- the rules of section 2

    boolean isCell(int c) {
        return c >= 0 && c < told.cells();
    }

    boolean isPerson(int p) {
        return p >= 0 && p < told.persons.size();
    }

    int current(int c) {
        return told.current.get(c % told.w % told.current.size());
    }

    int coldOf(int k) {
        return told.cold.get(k % told.cold.size()) - 10;
    }

    int bears(State state, int c) {
        return told.s * state.inches[c];
    }

    int load(State state, int c) {
        int on = 0;
        int beside = 0;
        for (int p = 0; p < state.at.length; p++) {
            int weight = told.persons.get(p).weight;
            if (state.at[p] == c) on += weight;
            else if (state.at[p] >= 0 && told.areNext(state.at[p], c)) beside += weight;
        }
        return on + beside / 2;
    }

    boolean cracks(State state, int c) {
        int load = load(state, c);
        int most = bears(state, c);
        return load > most * 3 / 4 && load <= most;
    }

    int breakAll(State state) {
        List<Integer> breaking = new ArrayList<>();
        for (int c = 0; c < told.cells(); c++) {
            if (state.inches[c] > 0 && load(state, c) > bears(state, c)) breaking.add(c);
        }
        if (breaking.isEmpty()) return 0;
        for (int c : breaking) {
            state.inches[c] = 0;
            drown(state, c);
        }
        state.broke += breaking.size();
        return breaking.size() + breakAll(state);
    }

    void drown(State state, int c) {
        for (int p = 0; p < state.at.length; p++) if (state.at[p] == c) state.at[p] = -2;
    }

    boolean mayGo(State state, int p, int c) {
        int from = state.at[p];
        int column = told.persons.get(p).town == 0 ? 0 : told.w - 1;
        if (from == -2) return false;
        if (c == NONE) return from >= 0 && from % told.w == column;
        if (state.inches[c] == 0) return false;
        return from == NONE ? c % told.w == column : told.areNext(from, c);
    }

    int doStep(State state, int p, int c) {
        state.at[p] = c;
        int broken = breakAll(state);
        if (broken > 0 && state.owner == NONE) state.owner = told.persons.get(p).town;
        return broken;
    }

    int inchesAfter(int inches, int c, int cold, boolean snowy) {
        if (cold > 0) {
            int more = Math.max(cold - current(c), 0);
            return Math.min(60, inches + more / (snowy ? 2 : 1));
        }
        return Math.max(0, inches - (-cold + current(c)));
    }

    void doNight(State state) {
        int cold = coldOf(state.nights);
        for (int c = 0; c < told.cells(); c++) state.inches[c] = inchesAfter(state.inches[c], c, cold, state.snow.contains(c));
        if (cold <= 0) state.snow.clear();
        state.nights++;
        breakAll(state);
        for (int c = 0; c < told.cells(); c++) if (state.inches[c] == 0) drown(state, c);
    }

    void remember() {
        past.push(now.copy());
        if (past.size() > 16) past.removeLast();
    }

    int draw(int n) {
        seed = (seed * 1103515245L + 12345L) % (1L << 31);
        return (int) (seed / 65536 % n);
    }

    // ---- the calls

    int told(int what) {
        if (what < 0 || what > 15) return OUTSIDE;
        int holes = 0;
        int knock = 0;
        int drowned = 0;
        int first = NONE;
        for (int c = 0; c < told.cells(); c++) {
            if (now.inches[c] == 0) holes += 1 << c;
            if (cracks(now, c)) knock += 1 << c;
            if (now.inches[c] > 0 && (first == NONE || bears(now, c) - load(now, c) < bears(now, first) - load(now, first))) first = c;
        }
        for (int p = 0; p < now.at.length; p++) if (now.at[p] == -2) drowned += 1 << p;
        int snow = now.snow.stream().mapToInt(c -> 1 << c).sum();
        int[] answers = {told.w, told.h, told.s, told.persons.size(), text.length(), now.nights, now.owner, holes, snow,
            knock, drowned, now.broke, first, seen.size(), book.size(), past.size()};
        return answers[what];
    }

    int cell(int c, int what) {
        if (!isCell(c)) return UNKNOWN;
        if (what < 0 || what > 5) return OUTSIDE;
        int who = 0;
        for (int p = 0; p < now.at.length; p++) if (now.at[p] == c) who += 1 << p;
        int[] answers = {now.inches[c], bears(now, c), load(now, c), who, current(c), 10000 + bears(now, c) - load(now, c)};
        return answers[what];
    }

    int person(int p, int what) {
        if (!isPerson(p)) return UNKNOWN;
        if (what < 0 || what > 2) return OUTSIDE;
        Person person = told.persons.get(p);
        return what == 0 ? person.town : what == 1 ? person.weight : now.at[p];
    }

    int cold(int k) {
        if (k < 0 || k > 9999) return OUTSIDE;
        return told.w == 0 ? NOT : coldOf(k) + 10;
    }

    private int nightsRefused(int n) {
        if (n < 1 || n > 60) return OUTSIDE;
        if (told.w == 0) return NOT;
        return now.nights > 9000 ? FULL : 0;
    }

    int night(int n) {
        if (nightsRefused(n) != 0) return nightsRefused(n);
        remember();
        for (int k = 0; k < n; k++) doNight(now);
        return now.nights;
    }

    int step(int p, int c) {
        if (!isPerson(p) || !(isCell(c) || c == NONE)) return UNKNOWN;
        if (!mayGo(now, p, c)) return NOT;
        remember();
        return doStep(now, p, c);
    }

    int salt(int b, int c, int n) {
        if (!isCell(c)) return UNKNOWN;
        if (b < 0 || b > 1 || n < 1 || n > 60) return OUTSIDE;
        if (now.inches[c] == 0) return NOT;
        remember();
        now.inches[c] = Math.max(0, now.inches[c] - n);
        int broken = 0;
        if (now.inches[c] == 0) {
            drown(now, c);
            broken = 1;
            now.broke++;
        }
        broken += breakAll(now);
        if (broken > 0 && now.owner == NONE) now.owner = b;
        return broken;
    }

    int snow(int c, boolean is) {
        if (!isCell(c)) return UNKNOWN;
        remember();
        boolean lay = now.snow.contains(c);
        if (is) now.snow.add(c);
        else now.snow.remove(c);
        return lay ? 1 : 0;
    }

    int spring() {
        if (told.w == 0) return NOT;
        remember();
        int was = now.owner;
        now.owner = NONE;
        for (int p = 0; p < now.at.length; p++) now.at[p] = now.at[p] == -2 ? -2 : NONE;
        return was;
    }

    int drift(int n) {
        if (nightsRefused(n) != 0) return nightsRefused(n);
        remember();
        for (int k = 0; k < n; k++) {
            if (!told.persons.isEmpty()) {
                int p = draw(told.persons.size());
                int c = draw(told.cells());
                if (mayGo(now, p, c)) doStep(now, p, c);
            }
            if (draw(4) == 0) now.snow.add(draw(told.cells()));
            doNight(now);
        }
        return now.broke;
    }

    int undo() {
        if (past.isEmpty()) return NOT;
        now = past.pop();
        return past.size();
    }

    private int inchesThen(int c, int n) {
        State alone = now.copy();
        Arrays.fill(alone.at, NONE);
        for (int k = 0; k < n; k++) doNight(alone);
        return alone.inches[c];
    }

    int then(int c, int n) {
        if (!isCell(c)) return UNKNOWN;
        return n < 0 || n > 60 ? OUTSIDE : inchesThen(c, n);
    }

    int when(int c, int weight) {
        if (!isCell(c)) return UNKNOWN;
        if (weight < 1 || weight > 999) return OUTSIDE;
        for (int n = 0; n <= 60; n++) if (inchesThen(c, n) * told.s >= weight) return n;
        return NONE;
    }

    int noMore(int c, int weight) {
        if (!isCell(c)) return UNKNOWN;
        if (weight < 1 || weight > 999) return OUTSIDE;
        for (int n = 0; n <= 60; n++) if (inchesThen(c, n) * told.s < weight) return n;
        return NONE;
    }

    /** Forth from each first step, unlike the class, which goes back from the other bank. */
    int over(int p, int what) {
        if (!isPerson(p)) return UNKNOWN;
        if (what < 0 || what > 1) return OUTSIDE;
        if (now.at[p] == -2) return NOT;
        int column = told.persons.get(p).town == 0 ? told.w - 1 : 0;
        if (now.at[p] >= 0 && now.at[p] % told.w == column) return what == 0 ? 0 : NONE;
        int best = NONE;
        int cell = NONE;
        for (int first = 0; first < told.cells(); first++) {
            int steps = stepsBy(p, first, column);
            if (steps != NONE && (best == NONE || steps < best)) {
                best = steps;
                cell = first;
            }
        }
        return what == 0 ? best : cell;
    }

    private int stepsBy(int p, int first, int column) {
        if (!isSafeStep(now, p, first)) return NONE;
        Map<Integer, Integer> far = new HashMap<>();
        Deque<Integer> queue = new ArrayDeque<>();
        far.put(first, 1);
        queue.add(first);
        while (!queue.isEmpty()) {
            int c = queue.poll();
            if (c % told.w == column) return far.get(c);
            State there = now.copy();
            there.at[p] = c;
            for (int d = 0; d < told.cells(); d++) {
                if (!far.containsKey(d) && isSafeStep(there, p, d)) {
                    far.put(d, far.get(c) + 1);
                    queue.add(d);
                }
            }
        }
        return NONE;
    }

    private boolean isSafeStep(State from, int p, int c) {
        return mayGo(from, p, c) && doStep(from.copy(), p, c) == 0;
    }

    int fewest(int c) {
        if (!isCell(c)) return UNKNOWN;
        if (now.inches[c] == 0) return NOT;
        int persons = told.persons.size();
        for (int size = 0; size <= persons; size++) {
            for (int set = 0; set < 1 << persons; set++) {
                if (Integer.bitCount(set) == size && breaks(c, set)) return set;
            }
        }
        return NONE;
    }

    private boolean breaks(int c, int set) {
        State there = now.copy();
        for (int p = 0; p < there.at.length; p++) {
            if ((set >> p & 1) == 1) {
                if (there.at[p] == -2) return false;
                there.at[p] = c;
            }
        }
        return load(there, c) > bears(there, c);
    }

    int leastSalt(int c) {
        if (!isCell(c)) return UNKNOWN;
        if (now.inches[c] == 0) return NONE;
        int n = 1;
        while (now.inches[c] - n > 0 && (now.inches[c] - n) * told.s >= load(now, c)) n++;
        return n;
    }

    int lives(int p, int what) {
        if (!isPerson(p)) return UNKNOWN;
        if (what < 0 || what > 1) return OUTSIDE;
        if (now.at[p] == -2) return NOT;
        int set = 0;
        for (int c = 0; c < told.cells(); c++) {
            if (!mayGo(now, p, c)) continue;
            State tried = now.copy();
            int broken = doStep(tried, p, c);
            boolean sinks = tried.at[p] == -2;
            if (what == 0 ? broken > 0 && !sinks : sinks) set += 1 << c;
        }
        return set;
    }

    int heard(int c) {
        if (!isCell(c)) return UNKNOWN;
        if (now.inches[c] == 0) return NONE;
        int[] far = new int[told.cells()];
        Arrays.fill(far, 99);
        far[c] = 0;
        for (int round = 0; round < 20; round++) {
            for (int a = 0; a < far.length; a++) {
                for (int b = 0; b < far.length; b++) {
                    if (told.areNext(a, b) && now.inches[b] > 0) far[b] = Math.min(far[b], far[a] + 1);
                }
            }
        }
        int best = NONE;
        for (int d = 0; d < far.length; d++) {
            if (cracks(now, d) && far[d] <= 3 && (best == NONE || far[d] < far[best])) best = d;
        }
        return best;
    }

    int game(int a, int b, int c, int d, int what) {
        for (int gain : new int[] {a, b, c, d}) if (gain < 0 || gain > 99) return OUTSIDE;
        if (what < 0 || what > 1) return OUTSIDE;
        int go = Math.min(a, b);
        int wait = Math.min(c, d);
        int greater = Math.max(go, wait);
        int lesser = Math.min(Math.max(a, c), Math.max(b, d));
        if (greater == lesser) return what == 1 ? greater * 1000 : go >= wait ? 1000000 : 0;
        long below = a + d - b - c;
        return (int) (what == 0 ? (d - c) * 1000000L / below : (a * d - b * c) * 1000L / below);
    }

    int tolls(int n, int c) {
        if (n < 0 || n > 99 || c < 0 || c > 99) return OUTSIDE;
        if (now.owner == NONE) return 0;
        int open = 0;
        for (int row = 0; row < told.h; row++) {
            int sum = 0;
            for (int column = 0; column < told.w; column++) sum += now.inches[row * told.w + column];
            if (sum == 0) open++;
        }
        return open * n * c;
    }

    int thaw(int n, int q) {
        if (n < 0 || n > 60 || q < 0 || q > 100) return OUTSIDE;
        return n == 0 ? 1000000 : (int) (thaw(n - 1, q) * (long) (100 - q) / 100);
    }

    int see(int t, boolean broke) {
        if (t < 1 || t > 60) return OUTSIDE;
        if (seen.size() == 6) return FULL;
        seen.add(new Sight(t, broke));
        return seen.size();
    }

    private int weight(int set) {
        int sum = 0;
        for (int p = 0; p < told.persons.size(); p++) sum += (set >> p & 1) * told.persons.get(p).weight;
        return sum;
    }

    private List<Integer> fitting() {
        List<Integer> sets = new ArrayList<>();
        for (int set = 0; set < 1 << told.persons.size(); set++) {
            int weight = weight(set);
            if (seen.stream().allMatch(sight -> weight > sight.inches * told.s == sight.broke)) sets.add(set);
        }
        return sets;
    }

    int who(int what) {
        if (what < 0 || what > 2) return OUTSIDE;
        List<Integer> sets = fitting();
        if (what == 0) return sets.size();
        if (sets.isEmpty()) return what == 1 ? NONE : 0;
        return what == 1 ? sets.get(0) : sets.stream().reduce(sets.get(0), (a, b) -> a & b);
    }

    int ask() {
        List<Integer> sets = fitting();
        int best = NONE;
        int least = Integer.MAX_VALUE;
        for (int t = 1; t <= 60; t++) {
            int most = told.s * t;
            int broken = (int) sets.stream().filter(set -> weight(set) > most).count();
            int part = Math.max(broken, sets.size() - broken);
            if (broken > 0 && broken < sets.size() && part < least) {
                best = t;
                least = part;
            }
        }
        return best;
    }

    int write(int c, int inches) {
        if (!isCell(c)) return UNKNOWN;
        if (inches < 0 || inches > 60) return OUTSIDE;
        if (book.size() == 15) return FULL;
        book.add(new Entry(c, inches));
        return book.size();
    }

    int tear() {
        int had = seen.size() + book.size();
        seen.clear();
        book.clear();
        return had;
    }

    int judge() {
        for (Entry entry : book) if (now.inches[entry.cell] != entry.inches) return book.indexOf(entry);
        return NONE;
    }

    int seed(int v) {
        if (v < 0) return OUTSIDE;
        int was = (int) seed;
        seed = v;
        return was;
    }

    int keep(int i) {
        if (i < 0 || i > 1) return UNKNOWN;
        images.put(i, new Kept(now.copy(), seed));
        past.clear();
        return 1;
    }

    int goBack(int i) {
        if (i < 0 || i > 1) return UNKNOWN;
        if (!images.containsKey(i)) return NOT;
        now = images.get(i).state.copy();
        seed = images.get(i).seed;
        past.clear();
        return 1;
    }
}
