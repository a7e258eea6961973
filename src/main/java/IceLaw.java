import java.util.Arrays;

/** The law of the ice-breakers: a river of ice, who breaks it, who drowns, whose it is. */
public final class IceLaw {
    public static final int NONE = -1, UNKNOWN = -1000000001, OUTSIDE = -1000000002, NOT = -1000000003, FULL = -1000000004;

    private static final int DROWNED = -2;
    private static final int MILLION = 1000000;
    private static final int MOST_CELLS = 18;
    private static final int MOST_COLUMNS = 6;
    private static final int MOST_COLDS = 12;
    private static final int MOST_PERSONS = 6;
    private static final int MOST_INCHES = 60;
    private static final int MOST_NIGHTS = 60;
    private static final int LAST_NIGHT = 9000;
    private static final int MOST_SEEN = 6;
    private static final int MOST_ENTRIES = 15;
    private static final int MOST_UNDONE = 16;
    private static final int MOST_LETTERS = 240;
    private static final int IMAGES = 2;

    private final Reader reader;
    private final Ice ice;
    private final Past past;
    private final Trial trial;
    private final Seen seen;
    private final Book book;
    private final Image[] images;
    private River land;
    private River draft;
    private int kept;
    private int seed;
    private int faultAt;

    public IceLaw() {
        reader = new Reader();
        ice = new Ice();
        past = new Past();
        trial = new Trial();
        seen = new Seen();
        book = new Book();
        images = new Image[IMAGES];
        for (int i = 0; i < images.length; i++) {
            images[i] = new Image();
        }
        land = new River();
        draft = new River();
        kept = 0;
        seed = 0;
        faultAt = NONE;
    }

    // ---- the river

    public int feed(int letter) {
        if (!isWithin(letter, 0, 255)) {
            return OUTSIDE;
        }
        return reader.add(letter) ? reader.letters : FULL;
    }

    public int river() {
        reader.readInto(draft);
        int fault = reader.fault;
        faultAt = fault == 0 ? NONE : reader.faultAt;
        reader.letters = 0;
        if (fault != 0) {
            return -10 - fault;
        }
        River before = land;
        land = draft;
        draft = before;
        ice.begin(land);
        past.count = 0;
        seen.count = 0;
        book.count = 0;
        kept = 0;
        return land.cells;
    }

    public int fault() {
        return faultAt;
    }

    public int told(int what) {
        switch (what) {
            case 0: return land.columns;
            case 1: return land.rows;
            case 2: return land.inchBears;
            case 3: return land.persons;
            case 4: return reader.letters;
            case 5: return ice.nights;
            case 6: return ice.owner;
            case 7: return ice.holes(land);
            case 8: return ice.snow;
            case 9: return ice.cracking(land);
            case 10: return ice.drowned(land);
            case 11: return ice.broke;
            case 12: return ice.weakest(land);
            case 13: return seen.count;
            case 14: return book.count;
            case 15: return past.count;
            default: return OUTSIDE;
        }
    }

    public int cell(int c, int what) {
        if (!isCell(c)) {
            return UNKNOWN;
        }
        switch (what) {
            case 0: return ice.inchesOf(c);
            case 1: return ice.bears(land, c);
            case 2: return ice.load(land, c);
            case 3: return ice.personsOn(land, c);
            case 4: return land.currentAt(c);
            case 5: return ice.spare(land, c) + 10000;
            default: return OUTSIDE;
        }
    }

    public int person(int p, int what) {
        if (!isPerson(p)) {
            return UNKNOWN;
        }
        switch (what) {
            case 0: return land.townOf(p);
            case 1: return land.weightOf(p);
            case 2: return ice.placeOf(p);
            default: return OUTSIDE;
        }
    }

    public int cold(int k) {
        if (!isWithin(k, 0, 9999)) {
            return OUTSIDE;
        }
        return isNoRiver() ? NOT : land.coldOf(k) + 10;
    }

    // ---- what is done

    public int night(int n) {
        int refusal = refusalOfNights(n);
        if (refusal != 0) {
            return refusal;
        }
        past.remember(ice);
        for (int k = 0; k < n; k++) {
            ice.passNight(land);
        }
        return ice.nights;
    }

    public int step(int p, int c) {
        if (!isPerson(p) || c != NONE && !isCell(c)) {
            return UNKNOWN;
        }
        if (!ice.canGo(land, p, c)) {
            return NOT;
        }
        past.remember(ice);
        return ice.go(land, p, c);
    }

    public int salt(int b, int c, int n) {
        if (!isCell(c)) {
            return UNKNOWN;
        }
        if (!isWithin(b, 0, 1) || !isWithin(n, 1, MOST_INCHES)) {
            return OUTSIDE;
        }
        if (ice.isHole(c)) {
            return NOT;
        }
        past.remember(ice);
        return ice.strewSalt(land, b, c, n);
    }

    public int snow(int c, boolean is) {
        if (!isCell(c)) {
            return UNKNOWN;
        }
        past.remember(ice);
        int lay = ice.isSnowy(c) ? 1 : 0;
        ice.laySnow(c, is);
        return lay;
    }

    public int spring() {
        if (isNoRiver()) {
            return NOT;
        }
        past.remember(ice);
        int was = ice.owner;
        ice.comeSpring();
        return was;
    }

    public int drift(int n) {
        int refusal = refusalOfNights(n);
        if (refusal != 0) {
            return refusal;
        }
        past.remember(ice);
        for (int k = 0; k < n; k++) {
            wander();
            ice.passNight(land);
        }
        return ice.broke;
    }

    public int undo() {
        return past.restore(ice) ? past.count : NOT;
    }

    // ---- tried

    public int then(int c, int n) {
        if (!isCell(c)) {
            return UNKNOWN;
        }
        if (!isWithin(n, 0, MOST_NIGHTS)) {
            return OUTSIDE;
        }
        return trial.inchesBehind(land, ice, c, n);
    }

    public int when(int c, int weight) {
        if (!isCell(c)) {
            return UNKNOWN;
        }
        return isWithin(weight, 1, 999) ? trial.firstNight(land, ice, c, weight, true) : OUTSIDE;
    }

    public int noMore(int c, int weight) {
        if (!isCell(c)) {
            return UNKNOWN;
        }
        return isWithin(weight, 1, 999) ? trial.firstNight(land, ice, c, weight, false) : OUTSIDE;
    }

    public int over(int p, int what) {
        int refusal = refusalOfPerson(p, what);
        return refusal != 0 ? refusal : trial.wayOver(land, ice, p, what == 1);
    }

    public int fewest(int c) {
        if (!isCell(c)) {
            return UNKNOWN;
        }
        return ice.isHole(c) ? NOT : trial.fewestOn(land, ice, c);
    }

    public int leastSalt(int c) {
        return isCell(c) ? trial.saltFor(land, ice, c) : UNKNOWN;
    }

    public int lives(int p, int what) {
        int refusal = refusalOfPerson(p, what);
        return refusal != 0 ? refusal : trial.breakingSteps(land, ice, p, what == 1);
    }

    public int heard(int c) {
        return isCell(c) ? trial.nearestCrack(land, ice, c) : UNKNOWN;
    }

    public int game(int a, int b, int c, int d, int what) {
        boolean isGain = isWithin(a, 0, 99) && isWithin(b, 0, 99) && isWithin(c, 0, 99) && isWithin(d, 0, 99);
        if (!isGain || !isWithin(what, 0, 1)) {
            return OUTSIDE;
        }
        int byGoing = Math.min(a, b);
        int byWaiting = Math.min(c, d);
        int sure = Math.max(byGoing, byWaiting);
        int mixed = a + d - b - c;
        // Without a saddle the divisor is never 0; the test of it is for the machine's sake.
        if (sure == Math.min(Math.max(a, c), Math.max(b, d)) || mixed == 0) {
            return what == 1 ? sure * 1000 : byGoing >= byWaiting ? MILLION : 0;
        }
        return what == 1 ? (a * d - b * c) * 1000 / mixed : (d - c) * MILLION / mixed;
    }

    public int tolls(int n, int c) {
        if (!isWithin(n, 0, 99) || !isWithin(c, 0, 99)) {
            return OUTSIDE;
        }
        return ice.owner == NONE ? 0 : n * c * ice.openRows(land);
    }

    public int thaw(int n, int q) {
        if (!isWithin(n, 0, MOST_NIGHTS) || !isWithin(q, 0, 100)) {
            return OUTSIDE;
        }
        int odds = MILLION;
        for (int k = 0; k < n; k++) {
            odds = odds * (100 - q) / 100;
        }
        return odds;
    }

    // ---- what is seen

    public int see(int t, boolean broke) {
        if (!isWithin(t, 1, MOST_INCHES)) {
            return OUTSIDE;
        }
        return seen.add(t, broke) ? seen.count : FULL;
    }

    public int who(int what) {
        switch (what) {
            case 0: return seen.howMany(land);
            case 1: return seen.least(land);
            case 2: return seen.sure(land);
            default: return OUTSIDE;
        }
    }

    public int ask() {
        return seen.bestQuestion(land);
    }

    public int write(int c, int inches) {
        if (!isCell(c)) {
            return UNKNOWN;
        }
        if (!isWithin(inches, 0, MOST_INCHES)) {
            return OUTSIDE;
        }
        return book.add(c, inches) ? book.count : FULL;
    }

    public int tear() {
        int had = seen.count + book.count;
        seen.count = 0;
        book.count = 0;
        return had;
    }

    public int judge() {
        return book.firstWrong(ice);
    }

    // ---- draws, images

    public int seed(int v) {
        if (v < 0) {
            return OUTSIDE;
        }
        int was = seed;
        seed = v;
        return was;
    }

    public int keep(int i) {
        Image image = imageAt(i);
        if (image == null) {
            return UNKNOWN;
        }
        image.ice.copyFrom(ice);
        image.seed = seed;
        kept |= 1 << i;
        past.count = 0;
        return 1;
    }

    public int goBack(int i) {
        Image image = imageAt(i);
        if (image == null) {
            return UNKNOWN;
        }
        if (!isIn(kept, i)) {
            return NOT;
        }
        ice.copyFrom(image.ice);
        seed = image.seed;
        past.count = 0;
        return 1;
    }

    // ---- helpers of the calls

    private static boolean isWithin(int number, int least, int most) {
        return number >= least && number <= most;
    }

    private static boolean isIn(int set, int k) {
        return k >= 0 && k < 31 && (set >> k & 1) == 1;
    }

    private static int leastIn(int set) {
        for (int k = 0; k < 31; k++) {
            if (isIn(set, k)) {
                return k;
            }
        }
        return NONE;
    }

    private boolean isNoRiver() {
        return land.cells == 0;
    }

    private boolean isCell(int c) {
        return c >= 0 && c < land.cells;
    }

    private boolean isPerson(int p) {
        return p >= 0 && p < land.persons;
    }

    /** Null: there is no such image. */
    private Image imageAt(int i) {
        return i >= 0 && i < images.length ? images[i] : null;
    }

    /** 0, if n nights may pass now. */
    private int refusalOfNights(int n) {
        if (!isWithin(n, 1, MOST_NIGHTS)) {
            return OUTSIDE;
        }
        if (isNoRiver()) {
            return NOT;
        }
        return ice.nights > LAST_NIGHT ? FULL : 0;
    }

    /** 0, if one of two things can be asked of a person who is not drowned. */
    private int refusalOfPerson(int p, int what) {
        if (!isPerson(p)) {
            return UNKNOWN;
        }
        if (!isWithin(what, 0, 1)) {
            return OUTSIDE;
        }
        return ice.placeOf(p) == DROWNED ? NOT : 0;
    }

    /** What chance does ahead of a night. */
    private void wander() {
        if (land.persons > 0) {
            int p = draw(land.persons);
            int c = draw(land.cells);
            if (ice.canGo(land, p, c)) {
                ice.go(land, p, c);
            }
        }
        if (draw(4) == 0) {
            ice.laySnow(draw(land.cells), true);
        }
    }

    private int draw(int n) {
        seed = (int) (seed * 1103515245L + 12345L & 0x7fffffffL);
        return n < 1 ? 0 : seed / 65536 % n;
    }

    /** What the text tells: it stays as it is till the next text. */
    private static final class River {
        final int[] thick = new int[MOST_CELLS];
        final int[] currents = new int[MOST_COLUMNS];
        final int[] colds = new int[MOST_COLDS];
        private final int[] towns = new int[MOST_PERSONS];
        private final int[] weights = new int[MOST_PERSONS];
        int thicks;
        int currentCount;
        int coldCount;
        int columns;
        int rows;
        int inchBears;
        int cells;
        int persons;

        void clear() {
            columns = 0;
            rows = 0;
            inchBears = 0;
            cells = 0;
            persons = 0;
            thicks = 0;
            currentCount = 0;
            coldCount = 0;
        }

        void measure(int w, int h, int s) {
            columns = w;
            rows = h;
            inchBears = s;
            cells = w * h;
        }

        void addPerson(int town, int weight) {
            if (persons >= 0 && persons < towns.length && persons < weights.length) {
                towns[persons] = town;
                weights[persons] = weight;
                persons++;
            }
        }

        int thickAt(int c) {
            return listed(thick, thicks, c, 10);
        }

        int currentAt(int c) {
            return columns < 1 ? 0 : listed(currents, currentCount, c % columns, 0);
        }

        int coldOf(int night) {
            return listed(colds, coldCount, night, 10) - 10;
        }

        /** The number for k: the list begins again where it ends. */
        private static int listed(int[] list, int count, int k, int untold) {
            if (k < 0 || count < 1 || count > list.length) {
                return untold;
            }
            return list[k % count];
        }

        int townOf(int p) {
            return p >= 0 && p < towns.length ? towns[p] : 0;
        }

        int weightOf(int p) {
            return p >= 0 && p < weights.length ? weights[p] : 0;
        }

        int weightOfAll(int set) {
            int sum = 0;
            for (int p = 0; p < persons; p++) {
                if (isIn(set, p)) {
                    sum += weightOf(p);
                }
            }
            return sum;
        }

        /** The set of cells next to a cell. */
        int nextTo(int c) {
            if (columns < 1 || c < 0 || c >= cells) {
                return 0;
            }
            int set = 0;
            if (c >= columns) {
                set |= 1 << c - columns;
            }
            if (c + columns < cells) {
                set |= 1 << c + columns;
            }
            if (c % columns > 0) {
                set |= 1 << c - 1;
            }
            if (c % columns < columns - 1) {
                set |= 1 << c + 1;
            }
            return set;
        }

        int nextToAny(int set) {
            int next = 0;
            for (int c = 0; c < cells; c++) {
                if (isIn(set, c)) {
                    next |= nextTo(c);
                }
            }
            return next;
        }

        /** The set of cells at a town's bank. */
        int bankOf(int town) {
            int column = town == 0 ? 0 : columns - 1;
            int set = 0;
            for (int row = 0; row < rows; row++) {
                set |= 1 << row * columns + column;
            }
            return set;
        }

        int inchesAfter(int inches, int c, int cold, boolean snowy) {
            if (cold > 0) {
                int more = Math.max(0, cold - currentAt(c));
                return Math.min(MOST_INCHES, inches + (snowy ? more / 2 : more));
            }
            return Math.max(0, inches + cold - currentAt(c));
        }
    }

    /** Reads the text into a river, up to its first fault. */
    private static final class Reader {
        private static final int CANNOT_STAND = 1;
        private static final int BAD_NUMBER = 2;
        private static final int AGAIN = 3;
        private static final int END = -1;

        private final int[] text = new int[MOST_LETTERS];
        private int at;
        int letters;
        int fault;
        int faultAt;

        boolean add(int letter) {
            if (letters < 0 || letters >= text.length) {
                return false;
            }
            text[letters] = letter;
            letters++;
            return true;
        }

        void readInto(River into) {
            at = 0;
            fault = 0;
            faultAt = NONE;
            into.clear();
            // A clause has one letter at least, so there are no more clauses than letters.
            for (int k = 0; k < letters && fault == 0; k++) {
                skipBlanks();
                if (sign() == END) {
                    break;
                }
                readClause(into);
            }
        }

        private void readClause(River into) {
            int word = sign();
            if (into.columns == 0 && word != 'r') {
                blame(CANNOT_STAND, at);
                return;
            }
            switch (word) {
                case 'r': readSize(into); break;
                case 't': into.thicks = readList(into.thick, into.thicks, 40); break;
                case 'c': into.currentCount = readList(into.currents, into.currentCount, 9); break;
                case 'n': into.coldCount = readList(into.colds, into.coldCount, 20); break;
                case 'p': readPerson(into); break;
                default: blame(CANNOT_STAND, at);
            }
        }

        private void readSize(River into) {
            if (into.columns != 0) {
                blame(AGAIN, at);
                return;
            }
            at++;
            int w = readNumber(2, MOST_COLUMNS);
            int h = readNumber(1, 3);
            int s = readNumber(1, 30);
            readEnd();
            if (fault == 0) {
                into.measure(w, h, s);
            }
        }

        private void readPerson(River into) {
            if (into.persons >= MOST_PERSONS) {
                blame(AGAIN, at);
                return;
            }
            at++;
            int town = readNumber(0, 1);
            int weight = readNumber(1, 200);
            readEnd();
            if (fault == 0) {
                into.addPerson(town, weight);
            }
        }

        /** How many numbers the list has now; one that has some already is told again. */
        private int readList(int[] list, int before, int most) {
            if (before != 0) {
                blame(AGAIN, at);
                return before;
            }
            at++;
            int count = 0;
            while (count < list.length && fault == 0) {
                list[count] = readNumber(0, most);
                count++;
                skipBlanks();
                if (sign() != ',' || count == list.length) {
                    break;
                }
                at++;
            }
            readEnd();
            return count;
        }

        private int readNumber(int least, int most) {
            if (fault != 0) {
                return 0;
            }
            skipBlanks();
            int first = at;
            int value = 0;
            while (at < letters && isFigure(sign())) {
                // A fourth figure is a fault, so what lies behind it need not be reckoned.
                value = at - first < 3 ? value * 10 + sign() - '0' : value;
                at++;
            }
            if (at == first) {
                blame(CANNOT_STAND, at);
            } else if (at - first > 3 || value < least || value > most) {
                blame(BAD_NUMBER, first);
            }
            return value;
        }

        private void readEnd() {
            if (fault != 0) {
                return;
            }
            skipBlanks();
            if (sign() == ';') {
                at++;
            } else {
                blame(CANNOT_STAND, at);
            }
        }

        private void skipBlanks() {
            while (at < letters && sign() == ' ') {
                at++;
            }
        }

        private int sign() {
            return at >= 0 && at < letters && at < text.length ? text[at] : END;
        }

        private static boolean isFigure(int sign) {
            return sign >= '0' && sign <= '9';
        }

        private void blame(int number, int where) {
            if (fault == 0) {
                fault = number;
                faultAt = where;
            }
        }
    }

    /** How the river is now: all that what is done changes, and all that is undone. */
    private static final class Ice {
        private final int[] inches = new int[MOST_CELLS];
        private final int[] places = new int[MOST_PERSONS];
        int snow;
        int nights;
        int owner = NONE;
        int broke;

        void begin(River river) {
            for (int c = 0; c < inches.length; c++) {
                inches[c] = c < river.cells ? river.thickAt(c) : 0;
            }
            Arrays.fill(places, NONE);
            snow = 0;
            nights = 0;
            owner = NONE;
            broke = 0;
        }

        void copyFrom(Ice other) {
            for (int c = 0; c < inches.length; c++) {
                inches[c] = other.inchesOf(c);
            }
            for (int p = 0; p < places.length; p++) {
                places[p] = other.placeOf(p);
            }
            snow = other.snow;
            nights = other.nights;
            owner = other.owner;
            broke = other.broke;
        }

        int inchesOf(int c) {
            return c >= 0 && c < inches.length ? inches[c] : 0;
        }

        private void setInches(int c, int many) {
            if (c >= 0 && c < inches.length) {
                inches[c] = many;
            }
        }

        int placeOf(int p) {
            return p >= 0 && p < places.length ? places[p] : DROWNED;
        }

        void putPerson(int p, int c) {
            if (p >= 0 && p < places.length) {
                places[p] = c;
            }
        }

        boolean isHole(int c) {
            return inchesOf(c) == 0;
        }

        boolean isSnowy(int c) {
            return isIn(snow, c);
        }

        void laySnow(int c, boolean is) {
            snow = is ? snow | 1 << c : snow & ~(1 << c);
        }

        int bears(River river, int c) {
            return river.inchBears * inchesOf(c);
        }

        int load(River river, int c) {
            int next = river.nextTo(c);
            int on = 0;
            int near = 0;
            for (int p = 0; p < river.persons; p++) {
                if (placeOf(p) == c) {
                    on += river.weightOf(p);
                } else if (isIn(next, placeOf(p))) {
                    near += river.weightOf(p);
                }
            }
            return on + near / 2;
        }

        int spare(River river, int c) {
            return bears(river, c) - load(river, c);
        }

        int personsOn(River river, int c) {
            int set = 0;
            for (int p = 0; p < river.persons; p++) {
                if (placeOf(p) == c) {
                    set |= 1 << p;
                }
            }
            return set;
        }

        int drowned(River river) {
            return personsOn(river, DROWNED);
        }

        int holes(River river) {
            int set = 0;
            for (int c = 0; c < river.cells; c++) {
                if (isHole(c)) {
                    set |= 1 << c;
                }
            }
            return set;
        }

        /** How many rows are nothing but holes. */
        int openRows(River river) {
            int holes = holes(river);
            int all = (1 << river.columns) - 1;
            int count = 0;
            for (int row = 0; row < river.rows; row++) {
                if ((holes >> row * river.columns & all) == all) {
                    count++;
                }
            }
            return count;
        }

        int cracking(River river) {
            int set = 0;
            for (int c = 0; c < river.cells; c++) {
                int most = bears(river, c);
                int load = load(river, c);
                if (load > most * 3 / 4 && load <= most) {
                    set |= 1 << c;
                }
            }
            return set;
        }

        /** The cell with inches that goes first. */
        int weakest(River river) {
            int first = NONE;
            for (int c = 0; c < river.cells; c++) {
                if (!isHole(c) && (first == NONE || spare(river, c) < spare(river, first))) {
                    first = c;
                }
            }
            return first;
        }

        /** The set of cells that have inches and bear less than their load. */
        int overloaded(River river) {
            int set = 0;
            for (int c = 0; c < river.cells; c++) {
                if (!isHole(c) && load(river, c) > bears(river, c)) {
                    set |= 1 << c;
                }
            }
            return set;
        }

        /** The set of cells to which a person can step. */
        int ways(River river, int p) {
            int place = placeOf(p);
            if (place == DROWNED) {
                return 0;
            }
            int near = place == NONE ? river.bankOf(river.townOf(p)) : river.nextTo(place);
            return near & ~holes(river);
        }

        boolean canGo(River river, int p, int c) {
            if (c == NONE) {
                return isIn(river.bankOf(river.townOf(p)), placeOf(p));
            }
            return isIn(ways(river, p), c);
        }

        /** A step that can be done: how many cells broke. */
        int go(River river, int p, int c) {
            putPerson(p, c);
            int count = breakOn(river);
            claim(river.townOf(p), count);
            return count;
        }

        int strewSalt(River river, int town, int c, int n) {
            setInches(c, Math.max(0, inchesOf(c) - n));
            int count = 0;
            if (isHole(c)) {
                drownOn(river, 1 << c);
                count = 1;
                broke++;
            }
            count += breakOn(river);
            claim(town, count);
            return count;
        }

        private void claim(int town, int count) {
            if (count > 0 && owner == NONE) {
                owner = town;
            }
        }

        void passNight(River river) {
            int cold = river.coldOf(nights);
            for (int c = 0; c < river.cells; c++) {
                setInches(c, river.inchesAfter(inchesOf(c), c, cold, isSnowy(c)));
            }
            if (cold <= 0) {
                snow = 0;
            }
            nights++;
            // Who stands where the ice has melted drowns only behind the breaking: till then it weighs.
            breakOn(river);
            drownOn(river, holes(river));
        }

        void comeSpring() {
            owner = NONE;
            for (int p = 0; p < places.length; p++) {
                if (places[p] != DROWNED) {
                    places[p] = NONE;
                }
            }
        }

        /** Cells break till none does any more: how many. */
        private int breakOn(River river) {
            int count = 0;
            for (int round = 0; round < river.cells; round++) {
                int weak = overloaded(river);
                if (weak == 0) {
                    break;
                }
                for (int c = 0; c < river.cells; c++) {
                    if (isIn(weak, c)) {
                        setInches(c, 0);
                    }
                }
                drownOn(river, weak);
                count += Integer.bitCount(weak);
            }
            broke += count;
            return count;
        }

        private void drownOn(River river, int cells) {
            for (int p = 0; p < river.persons; p++) {
                if (isIn(cells, placeOf(p))) {
                    putPerson(p, DROWNED);
                }
            }
        }
    }

    /** The latest states that can come again, the oldest lost first. */
    private static final class Past {
        private final Ice[] states = new Ice[MOST_UNDONE];
        private int next;
        int count;

        Past() {
            for (int k = 0; k < states.length; k++) {
                states[k] = new Ice();
            }
        }

        void remember(Ice now) {
            Ice state = stateAt(next);
            if (state != null) {
                state.copyFrom(now);
                next = next == states.length - 1 ? 0 : next + 1;
                count = Math.min(count + 1, states.length);
            }
        }

        boolean restore(Ice now) {
            int latest = next == 0 ? states.length - 1 : next - 1;
            Ice state = stateAt(latest);
            if (count < 1 || state == null) {
                return false;
            }
            now.copyFrom(state);
            next = latest;
            count--;
            return true;
        }

        private Ice stateAt(int k) {
            return k >= 0 && k < states.length ? states[k] : null;
        }
    }

    private static final class Image {
        final Ice ice = new Ice();
        int seed;
    }

    /** What is tried from now: on a copy, so that nothing changes by it. */
    private static final class Trial {
        private static final int FARTHEST_HEARD = 3;

        private final Ice copy = new Ice();

        int inchesBehind(River river, Ice now, int c, int n) {
            int inches = now.inchesOf(c);
            boolean snowy = now.isSnowy(c);
            for (int k = 0; k < n; k++) {
                int cold = river.coldOf(now.nights + k);
                inches = river.inchesAfter(inches, c, cold, snowy);
                snowy = snowy && cold > 0;
            }
            return inches;
        }

        /** Behind how many nights a cell first bears the weight, or first does not. */
        int firstNight(River river, Ice now, int c, int weight, boolean bears) {
            int inches = now.inchesOf(c);
            boolean snowy = now.isSnowy(c);
            for (int n = 0; n <= MOST_NIGHTS; n++) {
                boolean isBorne = river.inchBears * inches >= weight;
                if (isBorne == bears) {
                    return n;
                }
                int cold = river.coldOf(now.nights + n);
                inches = river.inchesAfter(inches, c, cold, snowy);
                snowy = snowy && cold > 0;
            }
            return NONE;
        }

        int wayOver(River river, Ice now, int p, boolean asksCell) {
            int goal = river.bankOf(1 - river.townOf(p));
            if (isIn(goal, now.placeOf(p))) {
                return asksCell ? NONE : 0;
            }
            int safe = safeFor(river, now, p);
            int start = now.ways(river, p) & safe;
            int reaching = goal & safe;
            for (int steps = 1; steps <= river.cells; steps++) {
                if ((start & reaching) != 0) {
                    return asksCell ? leastIn(start & reaching) : steps;
                }
                reaching |= river.nextToAny(reaching) & safe;
            }
            return NONE;
        }

        /** The set of cells with inches on which the person breaks nothing, all others staying. */
        private int safeFor(River river, Ice now, int p) {
            copy.copyFrom(now);
            int set = 0;
            for (int c = 0; c < river.cells; c++) {
                copy.putPerson(p, c);
                if (!copy.isHole(c) && copy.overloaded(river) == 0) {
                    set |= 1 << c;
                }
            }
            return set;
        }

        int fewestOn(River river, Ice now, int c) {
            int drowned = now.drowned(river);
            int best = NONE;
            for (int set = 0; set < 1 << river.persons; set++) {
                boolean isFewer = best == NONE || Integer.bitCount(set) < Integer.bitCount(best);
                if (isFewer && (set & drowned) == 0 && isBrokenBy(river, now, c, set)) {
                    best = set;
                }
            }
            return best;
        }

        private boolean isBrokenBy(River river, Ice now, int c, int set) {
            copy.copyFrom(now);
            for (int p = 0; p < river.persons; p++) {
                if (isIn(set, p)) {
                    copy.putPerson(p, c);
                }
            }
            return copy.load(river, c) > copy.bears(river, c);
        }

        int saltFor(River river, Ice now, int c) {
            int load = now.load(river, c);
            int inches = now.inchesOf(c);
            for (int n = 1; n <= inches; n++) {
                if (river.inchBears * (inches - n) < load || n == inches) {
                    return n;
                }
            }
            return NONE;
        }

        /** The set of cells to which a step breaks the ice and the person lives; or to which it drowns. */
        int breakingSteps(River river, Ice now, int p, boolean drowns) {
            int ways = now.ways(river, p);
            int set = 0;
            for (int c = 0; c < river.cells; c++) {
                if (isIn(ways, c)) {
                    copy.copyFrom(now);
                    int broken = copy.go(river, p, c);
                    boolean isDrowned = copy.placeOf(p) == DROWNED;
                    if (broken > 0 && isDrowned == drowns) {
                        set |= 1 << c;
                    }
                }
            }
            return set;
        }

        int nearestCrack(River river, Ice now, int c) {
            if (now.isHole(c)) {
                return NONE;
            }
            int firm = ~now.holes(river);
            int cracking = now.cracking(river);
            int reached = 1 << c;
            for (int away = 0; away <= FARTHEST_HEARD; away++) {
                if ((reached & cracking) != 0) {
                    return leastIn(reached & cracking);
                }
                reached |= river.nextToAny(reached) & firm;
            }
            return NONE;
        }
    }

    /** What is seen of an unknown set of persons, and which sets fit it. */
    private static final class Seen {
        private final int[] inches = new int[MOST_SEEN];
        private final boolean[] broke = new boolean[MOST_SEEN];
        private final int[] fitting = new int[1 << MOST_PERSONS];
        private final int[] weights = new int[1 << MOST_PERSONS];
        int count;

        boolean add(int t, boolean did) {
            if (count < 0 || count >= inches.length || count >= broke.length) {
                return false;
            }
            inches[count] = t;
            broke[count] = did;
            count++;
            return true;
        }

        /** Gathers the sets that fit, the least first, and what they weigh: how many. */
        int howMany(River river) {
            int many = 0;
            for (int set = 0; set < 1 << river.persons; set++) {
                int weight = river.weightOfAll(set);
                if (fits(river, weight) && many < fitting.length && many < weights.length) {
                    fitting[many] = set;
                    weights[many] = weight;
                    many++;
                }
            }
            return many;
        }

        private boolean fits(River river, int weight) {
            for (int k = 0; k < count && k < inches.length && k < broke.length; k++) {
                boolean breaks = weight > river.inchBears * inches[k];
                if (breaks != broke[k]) {
                    return false;
                }
            }
            return true;
        }

        int least(River river) {
            return howMany(river) > 0 ? fitting[0] : NONE;
        }

        /** The set of persons who are in all that fits. */
        int sure(River river) {
            int many = howMany(river);
            int common = many > 0 ? fitting[0] : 0;
            for (int k = 1; k < many && k < fitting.length; k++) {
                common &= fitting[k];
            }
            return common;
        }

        /** The inches that leave least of what fits alike, if they part it at all. */
        int bestQuestion(River river) {
            int many = howMany(river);
            int best = NONE;
            int bestPart = many;
            for (int t = 1; t <= MOST_INCHES; t++) {
                int breaking = howManyAbove(river.inchBears * t, many);
                int part = Math.max(breaking, many - breaking);
                if (part < bestPart) {
                    best = t;
                    bestPart = part;
                }
            }
            return best;
        }

        private int howManyAbove(int most, int many) {
            int above = 0;
            for (int k = 0; k < many && k < weights.length; k++) {
                if (weights[k] > most) {
                    above++;
                }
            }
            return above;
        }
    }

    /** What a law-book tells of the ice. */
    private static final class Book {
        private final int[] cells = new int[MOST_ENTRIES];
        private final int[] inches = new int[MOST_ENTRIES];
        int count;

        boolean add(int c, int many) {
            if (count < 0 || count >= cells.length || count >= inches.length) {
                return false;
            }
            cells[count] = c;
            inches[count] = many;
            count++;
            return true;
        }

        int firstWrong(Ice now) {
            for (int k = 0; k < count && k < cells.length && k < inches.length; k++) {
                if (now.inchesOf(cells[k]) != inches[k]) {
                    return k;
                }
            }
            return NONE;
        }
    }
}
