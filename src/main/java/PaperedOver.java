import java.util.Arrays;

/** A house of papered walls, and what the layers at a few lifted places tell of it. */
public final class PaperedOver {
    public static final int NONE = -1000000, BAD = -1000001, STATE = -1000002, FULL = -1000003;

    private static final int FINDING = -1000010, FAULT = -1000100;
    private static final int NULL = 1, PLACE = 2, KIND = 3, SIZE = 4, STORE = 5;
    private static final int TALLEST = 400, LONGEST = 99;

    private final Rows rows;
    private final Tape tape;
    private final Reader reader;
    private final House house;
    private final Spots spots;
    private final Image imageA;
    private final Image imageB;
    private final Facts facts;
    private final Orders parted;
    private final Cutter cutter;
    private final Bodies bodies;
    private int latestFault;
    private int latestFinding;

    public PaperedOver() {
        rows = new Rows();
        tape = new Tape();
        reader = new Reader(tape);
        house = new House();
        spots = new Spots();
        imageA = new Image();
        imageB = new Image();
        facts = new Facts(house, spots);
        parted = new Orders(facts);
        cutter = new Cutter();
        bodies = new Bodies();
    }

    // ---- rows

    public int row(int row, int lane, int n) {
        if (!rows.isRow(row) || !rows.isLane(lane) || n > Rows.MOST) return BAD;
        if (n < 0) return found(SIZE);
        rows.make(row, lane, n);
        return clean(n);
    }

    public int set(int row, int i, int v) {
        if (!rows.isRow(row)) return BAD;
        if (!rows.isThere(row)) return found(NULL);
        if (!rows.holds(row, i, 1)) return found(PLACE);
        return clean(rows.put(row, i, v));
    }

    public int copy(int a, int i, int b, int j, int n) {
        if (!rows.isRow(a) || !rows.isRow(b)) return BAD;
        if (!rows.isThere(a) || !rows.isThere(b)) return found(NULL);
        if (!rows.alike(a, b)) return found(STORE);
        if (!rows.holds(a, i, n) || !rows.holds(b, j, n)) return found(PLACE);
        rows.move(a, i, b, j, n);
        return clean(n);
    }

    public int drop(int row) {
        if (!rows.isRow(row)) return BAD;
        if (!rows.isThere(row)) return found(NULL);
        return clean(rows.remove(row));
    }

    // ---- houses, spots

    public int feed(long w, int n) {
        if (n < 1 || n > 8) return BAD;
        if (!tape.hasRoom(n)) return FULL;
        tape.append(w, n);
        return tape.length;
    }

    public int house() {
        boolean read = reader.read();
        tape.length = 0;
        if (!read) {
            latestFault = reader.fault;
            return FAULT - reader.place;
        }
        house.take(reader.draft);
        spots.number = 0;
        learnAnew();
        return house.walls;
    }

    public int fault() {
        return latestFault;
    }

    public int lift(int wall, int row, int i, int n) {
        if (!house.isWall(wall) || !rows.isRow(row) || n < 1 || n > Spots.DEEPEST) return BAD;
        if (!spots.hasRoom()) return FULL;
        if (!rows.isThere(row)) return found(NULL);
        if (!rows.holds(row, i, n)) return found(PLACE);
        if (!areUnlikePapers(row, i, n)) return BAD;
        int spot = spots.number;
        spots.open(wall);
        for (int k = 0; k < n; k++) {
            spots.lay(spot, rows.item(row, i + k));
        }
        learnAnew();
        return clean(spot);
    }

    public int forget() {
        if (spots.number == 0) return STATE;
        spots.number--;
        learnAnew();
        return spots.number;
    }

    public int spot(int spot, int k) {
        if (!spots.isSpot(spot) || k < -1) return BAD;
        return k == -1 ? spots.wall(spot) : spots.layer(spot, k);
    }

    public int papers(int what) {
        if (!house.stands()) return STATE;
        if (what == 0) return facts.seen;
        if (what == 1) return facts.ring;
        if (what >= 10 && house.isPaper(what - 10)) return facts.sure[what - 10];
        if (what >= 30 && house.isWall(what - 30)) return facts.on[what - 30];
        return BAD;
    }

    public int paper(int paper, int what) {
        if (!house.isPaper(paper)) return BAD;
        switch (what) {
            case 0: return house.made[paper];
            case 1: return house.last[paper];
            case 2: return house.prices[paper];
            case 3: return house.repeats[paper];
            default: return BAD;
        }
    }

    // ---- orders, years

    public int orders() {
        if (!house.stands()) return STATE;
        return parted.all();
    }

    public int first(int place) {
        if (!house.stands()) return STATE;
        if (place < 0) return BAD;
        return place < facts.placed ? facts.earliest[place] : NONE;
    }

    public int odds(int a, int b, int what) {
        if (!isSeen(a) || !isSeen(b) || a == b || !isSwitch(what)) return BAD;
        if (facts.hasRing()) return STATE;
        int above = parted.withAhead(a, b);
        int below = parted.all();
        int shared = Math.max(1, greatestShared(above, below));
        return what == 0 ? above / shared : below / shared;
    }

    public int next() {
        if (!house.stands() || facts.hasRing()) return STATE;
        int pair = parted.mostEvenPair();
        return pair < 0 ? NONE : pair;
    }

    public int years(int paper, int what) {
        if (!isSeen(paper) || what < 0 || what > 2) return BAD;
        if (facts.hasRing()) return STATE;
        if (what == 0) return facts.least[paper];
        if (what == 1) return facts.most[paper];
        return facts.least[paper] > facts.most[paper] ? 1 : 0;
    }

    public int younger(int a, int b) {
        if (!house.isWall(a) || !house.isWall(b) || a == b) return BAD;
        if (facts.hasRing()) return STATE;
        return facts.isYounger(a, b) ? 1 : 0;
    }

    public int lacks(int wall, int what) {
        if (!house.isWall(wall) || !isSwitch(what)) return BAD;
        if (facts.hasRing()) return STATE;
        return what == 0 ? facts.scrapedOff(wall) : facts.neverThere(wall);
    }

    public int tenants(int paper) {
        if (!isSeen(paper)) return BAD;
        if (facts.hasRing()) return STATE;
        return facts.whoCan(paper);
    }

    public int cupboard(int spot, int what) {
        if (!spots.isSpot(spot) || !isSwitch(what)) return BAD;
        if (facts.hasRing()) return STATE;
        int hidden = facts.missingAt(spot);
        if (hidden == 0) return NONE;
        return what == 0 ? facts.leastOf(hidden) : facts.mostOf(hidden);
    }

    // ---- scraps, rolls

    public int scrap(int h, int k) {
        if (!house.stands()) return STATE;
        if (h < 0 || h > TALLEST || k < 0 || k > TALLEST) return BAD;
        return house.printedEvery(Math.abs(h - k));
    }

    public int tells(int some) {
        if (!house.stands()) return STATE;
        if (!isSetOf(some, house.papers)) return BAD;
        for (int length = 1; length <= LONGEST; length++) {
            if (house.isToldBy(some, length)) return length;
        }
        return NONE;
    }

    public int rolls(int paper, int walls, int what) {
        if (!house.isPaper(paper) || !isSetOf(walls, house.walls) || what < 0 || what > 2) return BAD;
        cutter.cut(house, paper, walls);
        if (what == 0) return cutter.strips;
        return what == 1 ? cutter.used : cutter.left;
    }

    public int image(int k) {
        if (!isSwitch(k)) return BAD;
        if (!house.stands()) return STATE;
        Image image = k == 0 ? imageA : imageB;
        image.house.take(house);
        image.spots.take(spots);
        return 1;
    }

    public int restore(int k) {
        if (!isSwitch(k)) return BAD;
        Image image = k == 0 ? imageA : imageB;
        if (!image.house.stands()) return STATE;
        house.take(image.house);
        spots.take(image.spots);
        learnAnew();
        return 1;
    }

    // ---- asked

    public int kind(int paper) {
        return house.isPaper(paper) ? house.kinds[paper] : BAD;
    }

    public int as(int paper, int kind) {
        if (!house.isPaper(paper) || !House.isKind(kind)) return BAD;
        return house.isOf(paper, kind) ? clean(paper) : found(KIND);
    }

    public int ask(int paper, int what) {
        if (!house.isPaper(paper) || !isSwitch(what)) return BAD;
        return what == 0 ? bodies.askSize(house, paper) : bodies.askMark(house, paper);
    }

    public int trace(int i) {
        return i >= 0 && i < bodies.begun ? bodies.trace[i] : NONE;
    }

    public int count(int what) {
        switch (what) {
            case 0: return rows.howMany();
            case 1: return house.walls;
            case 2: return house.papers;
            case 3: return house.tenants;
            case 4: return spots.number;
            case 5: return tape.length;
            default: return BAD;
        }
    }

    public int status() {
        return latestFinding;
    }

    // ---- what the calls share

    private int found(int finding) {
        latestFinding = finding;
        return FINDING - finding;
    }

    private int clean(int answer) {
        latestFinding = 0;
        return answer;
    }

    private void learnAnew() {
        facts.learn();
        parted.counted = false;
    }

    private boolean isSeen(int paper) {
        return house.isPaper(paper) && has(facts.seen, paper);
    }

    private boolean areUnlikePapers(int row, int i, int n) {
        int told = 0;
        for (int k = 0; k < n; k++) {
            int paper = rows.item(row, i + k);
            if (!house.isPaper(paper) || has(told, paper)) return false;
            told |= 1 << paper;
        }
        return true;
    }

    private static boolean isSwitch(int what) {
        return what == 0 || what == 1;
    }

    /** Whether all bits of a set lie below a number, which is at most 10. */
    private static boolean isSetOf(int some, int number) {
        return some >= 0 && some < 1 << number;
    }

    private static boolean has(int some, int one) {
        return (some >> one & 1) != 0;
    }

    private static int greatestShared(int a, int b) {
        // Numbers of 31 bits are through in fewer than 64 steps.
        for (int step = 0; step < 64 && b != 0; step++) {
            int left = a % b;
            a = b;
            b = left;
        }
        return a;
    }

    /** Whole parts that hold all of an amount; a part of none holds nothing. */
    private static int partsUp(int amount, int part) {
        return part <= 0 ? 0 : (amount + part - 1) / part;
    }

    /** The eight rows, all in one array so that none is ever made anew. */
    private static final class Rows {
        static final int NUMBER = 8, MOST = 40, BYTES = 0, SHORTS = 1, INTS = 2;

        final boolean[] there = new boolean[NUMBER];
        final int[] lanes = new int[NUMBER];
        final int[] sizes = new int[NUMBER];
        final int[] items = new int[NUMBER * MOST];

        boolean isRow(int row) {
            return row >= 0 && row < NUMBER;
        }

        boolean isLane(int lane) {
            return lane >= BYTES && lane <= INTS;
        }

        boolean isThere(int row) {
            return isRow(row) && there[row];
        }

        boolean alike(int a, int b) {
            return isRow(a) && isRow(b) && lanes[a] == lanes[b];
        }

        /** Whether n items from i on lie within a row; written so that no sum can overflow. */
        boolean holds(int row, int i, int n) {
            return isRow(row) && i >= 0 && n >= 0 && i <= sizes[row] - n;
        }

        void make(int row, int lane, int n) {
            if (!isRow(row) || n < 0 || n > MOST) return;
            there[row] = true;
            lanes[row] = lane;
            sizes[row] = n;
            Arrays.fill(items, row * MOST, row * MOST + n, 0);
        }

        int item(int row, int i) {
            return holds(row, i, 1) ? items[row * MOST + i] : NONE;
        }

        int put(int row, int i, int v) {
            if (!holds(row, i, 1)) return NONE;
            int kept = v;
            if (lanes[row] == BYTES) kept = (byte) v;
            if (lanes[row] == SHORTS) kept = (short) v;
            items[row * MOST + i] = kept;
            return kept;
        }

        void move(int a, int i, int b, int j, int n) {
            if (!holds(a, i, n) || !holds(b, j, n)) return;
            System.arraycopy(items, a * MOST + i, items, b * MOST + j, n);
        }

        int remove(int row) {
            if (!isThere(row)) return 0;
            int had = sizes[row];
            there[row] = false;
            sizes[row] = 0;
            return had;
        }

        int howMany() {
            int number = 0;
            for (int row = 0; row < NUMBER; row++) {
                if (there[row]) number++;
            }
            return number;
        }
    }

    /** The bytes that wait to be read. */
    private static final class Tape {
        static final int ROOM = 500, NO_BYTE = -1;

        final int[] bytes = new int[ROOM];
        int length;

        boolean hasRoom(int n) {
            return n <= ROOM - length;
        }

        void append(long w, int n) {
            for (int i = n - 1; i >= 0 && length < ROOM; i--) {
                bytes[length] = (int) (w >>> 8 * i) & 255;
                length++;
            }
        }

        int at(int i) {
            return i >= 0 && i < length ? bytes[i] : NO_BYTE;
        }
    }

    /** Reads the tape into a draft, so that a fault leaves the house that stands alone. */
    private static final class Reader {
        static final int END = 0, NAME = 1, NUMBER = 2, SIGN = 3, BROKEN = 4;
        static final int NO_WORD = -1, WALL = 0, PAPER = 1, TENANT = 2;
        static final int MOST_FIGURES = 4, FIRST_YEAR = 1700, LAST_YEAR = 1999;
        static final int MISPLACED = 1, UNTOLD = 2, TOO_MANY = 3;

        final Tape tape;
        final House draft = new House();
        int sort;
        int begin;
        int end;
        int value;
        int fault;
        int place;

        Reader(Tape tape) {
            this.tape = tape;
        }

        boolean read() {
            draft.clear();
            fault = 0;
            end = 0;
            step();
            int stage = WALL;
            // Each round takes a word from the tape or ends: no more rounds than bytes.
            for (int round = 0; round <= Tape.ROOM; round++) {
                if (sort == END && draft.stands()) return true;
                int word = word();
                if (word < stage || word > WALL && !draft.stands()) fail(MISPLACED);
                if (isFull(word)) fail(TOO_MANY);
                readOne(word);
                if (fault != 0) return false;
                stage = word;
            }
            return false;
        }

        int word() {
            if (isName("wall")) return WALL;
            if (isName("paper")) return PAPER;
            return isName("tenant") ? TENANT : NO_WORD;
        }

        boolean isFull(int word) {
            if (word == WALL) return draft.walls >= House.MOST_WALLS;
            if (word == PAPER) return draft.papers >= House.MOST_PAPERS;
            return word == TENANT && draft.tenants >= House.MOST_TENANTS;
        }

        void readOne(int word) {
            if (fault != 0) return;
            step();
            if (word == WALL) readWall();
            if (word == PAPER) readPaper();
            if (word == TENANT) readTenant();
        }

        void readWall() {
            int built = number(FIRST_YEAR, LAST_YEAR);
            int wide = number(50, 999);
            int high = number(100, 400);
            semicolon();
            if (fault == 0) draft.addWall(built, wide, high);
        }

        void readPaper() {
            int kind = sortOfPaper();
            int made = number(FIRST_YEAR, LAST_YEAR);
            int last = number(made, LAST_YEAR);
            int price = number(0, 99);
            int repeat = number(1, 99);
            semicolon();
            if (fault == 0) draft.addPaper(kind, made, last, price, repeat);
        }

        void readTenant() {
            int from = number(FIRST_YEAR, LAST_YEAR);
            int to = number(from, LAST_YEAR);
            int means = number(0, 99);
            semicolon();
            if (fault == 0) draft.addTenant(from, to, means);
        }

        int sortOfPaper() {
            int kind = House.PAPER;
            if (isName("plain")) kind = House.PLAIN;
            if (isName("stamp")) kind = House.DATED;
            if (isName("news")) kind = House.NEWS;
            if (isName("rest")) kind = House.REST;
            if (isName("paint")) kind = House.PAINT;
            if (kind == House.PAPER) fail(MISPLACED);
            if (fault == 0) step();
            return kind;
        }

        /** Behind a fault nothing is read any more: the first one is told. */
        int number(int least, int most) {
            if (fault != 0) return 0;
            if (sort != NUMBER) {
                fail(MISPLACED);
                return 0;
            }
            if (value < least || value > most) {
                fail(UNTOLD);
                return 0;
            }
            int told = value;
            step();
            return told;
        }

        void semicolon() {
            if (fault != 0) return;
            if (sort == SIGN) {
                step();
            } else {
                fail(MISPLACED);
            }
        }

        void fail(int number) {
            if (fault != 0) return;
            fault = number;
            place = begin;
        }

        /** Goes on to the next token, which at the end of the tape is its end. */
        void step() {
            begin = end;
            while (begin < tape.length && isBlank(tape.at(begin))) begin++;
            end = begin + 1;
            int sign = tape.at(begin);
            if (sign == Tape.NO_BYTE) {
                sort = END;
                end = begin;
            } else if (isLetter(sign)) {
                sort = NAME;
                while (end < tape.length && isLetter(tape.at(end))) end++;
            } else if (isFigure(sign)) {
                // A run that is too long may overflow the value, but then nobody asks for it.
                value = sign - '0';
                while (end < tape.length && isFigure(tape.at(end))) {
                    value = value * 10 + tape.at(end) - '0';
                    end++;
                }
                sort = end - begin <= MOST_FIGURES ? NUMBER : BROKEN;
            } else {
                sort = sign == ';' ? SIGN : BROKEN;
            }
        }

        boolean isName(String word) {
            if (sort != NAME || end - begin != word.length()) return false;
            for (int i = 0; i < word.length(); i++) {
                if (tape.at(begin + i) != word.charAt(i)) return false;
            }
            return true;
        }

        static boolean isBlank(int sign) {
            return sign == 32 || sign == 10;
        }

        static boolean isLetter(int sign) {
            return sign >= 'a' && sign <= 'z';
        }

        static boolean isFigure(int sign) {
            return sign >= '0' && sign <= '9';
        }
    }

    /** Walls, papers and tenants, as told; one without walls is none. */
    private static final class House {
        static final int MOST_WALLS = 8, MOST_PAPERS = 10, MOST_TENANTS = 10;
        static final int PAPER = 0, PLAIN = 1, DATED = 2, NEWS = 3, REST = 4, PAINT = 5;
        /** Of each kind the one that it is, too; of a PAPER none. */
        static final int[] ALSO = {-1, PAPER, PAPER, DATED, PLAIN, PAPER};

        int walls;
        final int[] built = new int[MOST_WALLS];
        final int[] wide = new int[MOST_WALLS];
        final int[] high = new int[MOST_WALLS];
        int papers;
        final int[] kinds = new int[MOST_PAPERS];
        final int[] made = new int[MOST_PAPERS];
        final int[] last = new int[MOST_PAPERS];
        final int[] prices = new int[MOST_PAPERS];
        final int[] repeats = new int[MOST_PAPERS];
        int tenants;
        final int[] from = new int[MOST_TENANTS];
        final int[] to = new int[MOST_TENANTS];
        final int[] means = new int[MOST_TENANTS];

        boolean stands() {
            return walls > 0;
        }

        boolean isWall(int wall) {
            return wall >= 0 && wall < walls;
        }

        boolean isPaper(int paper) {
            return paper >= 0 && paper < papers;
        }

        static boolean isKind(int kind) {
            return kind >= PAPER && kind <= PAINT;
        }

        boolean isOf(int paper, int kind) {
            int is = isPaper(paper) ? kinds[paper] : -1;
            for (int step = 0; step < ALSO.length && isKind(is); step++) {
                if (is == kind) return true;
                is = ALSO[is];
            }
            return false;
        }

        void clear() {
            walls = 0;
            papers = 0;
            tenants = 0;
        }

        void addWall(int since, int width, int height) {
            if (walls >= MOST_WALLS) return;
            built[walls] = since;
            wide[walls] = width;
            high[walls] = height;
            walls++;
        }

        void addPaper(int kind, int first, int latest, int price, int repeat) {
            if (papers >= MOST_PAPERS) return;
            kinds[papers] = kind;
            made[papers] = first;
            last[papers] = latest;
            prices[papers] = price;
            repeats[papers] = repeat;
            papers++;
        }

        void addTenant(int first, int latest, int purse) {
            if (tenants >= MOST_TENANTS) return;
            from[tenants] = first;
            to[tenants] = latest;
            means[tenants] = purse;
            tenants++;
        }

        void take(House other) {
            clear();
            for (int w = 0; w < other.walls; w++) {
                addWall(other.built[w], other.wide[w], other.high[w]);
            }
            for (int p = 0; p < other.papers; p++) {
                addPaper(other.kinds[p], other.made[p], other.last[p], other.prices[p], other.repeats[p]);
            }
            for (int t = 0; t < other.tenants; t++) {
                addTenant(other.from[t], other.to[t], other.means[t]);
            }
        }

        /** The papers, but for paint, that can show one print twice so far apart. */
        int printedEvery(int apart) {
            int some = 0;
            for (int p = 0; p < papers; p++) {
                if (kinds[p] != PAINT && leftBy(apart, repeats[p]) == 0) some |= 1 << p;
            }
            return some;
        }

        boolean isToldBy(int some, int length) {
            for (int a = 0; a < papers; a++) {
                for (int b = a + 1; b < papers; b++) {
                    boolean both = has(some, a) && has(some, b);
                    if (both && leftBy(repeats[a], length) == leftBy(repeats[b], length)) return false;
                }
            }
            return true;
        }

        static int leftBy(int amount, int part) {
            return part <= 0 ? amount : amount % part;
        }
    }

    /** The places at which layers were lifted, from the wall on. */
    private static final class Spots {
        static final int MOST = 9, DEEPEST = 8;

        int number;
        final int[] walls = new int[MOST];
        final int[] depths = new int[MOST];
        final int[] layers = new int[MOST * DEEPEST];

        boolean isSpot(int spot) {
            return spot >= 0 && spot < number;
        }

        boolean hasRoom() {
            return number < MOST;
        }

        int wall(int spot) {
            return isSpot(spot) ? walls[spot] : NONE;
        }

        /** NONE: not so many lie there. */
        int layer(int spot, int k) {
            if (!isSpot(spot) || k < 0 || k >= depths[spot]) return NONE;
            return layers[spot * DEEPEST + k];
        }

        void open(int wall) {
            if (!hasRoom()) return;
            walls[number] = wall;
            depths[number] = 0;
            number++;
        }

        void lay(int spot, int paper) {
            if (!isSpot(spot) || depths[spot] >= DEEPEST) return;
            layers[spot * DEEPEST + depths[spot]] = paper;
            depths[spot]++;
        }

        void take(Spots other) {
            number = other.number;
            System.arraycopy(other.walls, 0, walls, 0, MOST);
            System.arraycopy(other.depths, 0, depths, 0, MOST);
            System.arraycopy(other.layers, 0, layers, 0, MOST * DEEPEST);
        }
    }

    /** What image() keeps; its house has no walls as long as nothing was kept. */
    private static final class Image {
        final House house = new House();
        final Spots spots = new Spots();
    }

    /** What follows from the house and its spots, learned anew whenever these change. */
    private static final class Facts {
        static final int MOST = House.MOST_PAPERS, LAST_YEAR = 1999, FAR = 9999;

        final House house;
        final Spots spots;
        int seen;
        int ring;
        /** Of each wall the papers that are on it. */
        final int[] on = new int[House.MOST_WALLS];
        /** Of each paper those that lie right below it at some spot. */
        final int[] ahead = new int[MOST];
        final int[] sure = new int[MOST];
        final int[] earliest = new int[MOST];
        int placed;
        final int[] least = new int[MOST];
        final int[] most = new int[MOST];

        Facts(House house, Spots spots) {
            this.house = house;
            this.spots = spots;
        }

        boolean hasRing() {
            return ring != 0;
        }

        void learn() {
            gather();
            close();
            placed = 0;
            if (hasRing()) return;
            arrange();
            for (int i = 0; i < placed; i++) {
                dateLeast(earliest[i]);
            }
            for (int i = placed - 1; i >= 0; i--) {
                dateMost(earliest[i]);
            }
        }

        void gather() {
            seen = 0;
            Arrays.fill(on, 0);
            Arrays.fill(ahead, 0);
            for (int s = 0; s < spots.number; s++) {
                int wall = spots.wall(s);
                int some = at(s);
                seen |= some;
                if (house.isWall(wall)) on[wall] |= some;
                for (int k = 1; k < Spots.DEEPEST; k++) {
                    putAhead(spots.layer(s, k - 1), spots.layer(s, k));
                }
            }
        }

        void putAhead(int below, int upon) {
            if (house.isPaper(below) && house.isPaper(upon)) ahead[upon] |= 1 << below;
        }

        int at(int spot) {
            int some = 0;
            for (int k = 0; k < Spots.DEEPEST; k++) {
                int paper = spots.layer(spot, k);
                if (house.isPaper(paper)) some |= 1 << paper;
            }
            return some;
        }

        /** Each paper may stand between two others once: then all that is sure is known. */
        void close() {
            System.arraycopy(ahead, 0, sure, 0, MOST);
            for (int between = 0; between < MOST; between++) {
                for (int p = 0; p < MOST; p++) {
                    if (has(sure[p], between)) sure[p] |= sure[between];
                }
            }
            ring = 0;
            for (int p = 0; p < MOST; p++) {
                if (has(sure[p], p)) ring |= 1 << p;
            }
        }

        boolean canFollow(int some, int paper) {
            return has(seen & ~some, paper) && (ahead[paper] & ~some) == 0;
        }

        void arrange() {
            int some = 0;
            for (int place = 0; place < MOST; place++) {
                int paper = leastThatFollows(some);
                if (paper < 0) return;
                earliest[placed] = paper;
                placed++;
                some |= 1 << paper;
            }
        }

        int leastThatFollows(int some) {
            for (int p = 0; p < MOST; p++) {
                if (canFollow(some, p)) return p;
            }
            return -1;
        }

        void dateLeast(int paper) {
            int year = house.made[paper];
            for (int w = 0; w < house.walls; w++) {
                if (has(on[w], paper)) year = Math.max(year, house.built[w]);
            }
            for (int p = 0; p < MOST; p++) {
                if (has(ahead[paper], p)) year = Math.max(year, least[p] + 1);
            }
            least[paper] = year;
        }

        void dateMost(int paper) {
            int year = LAST_YEAR;
            if (house.isOf(paper, House.DATED)) year = Math.min(year, house.last[paper]);
            for (int p = 0; p < MOST; p++) {
                if (has(ahead[p], paper)) year = Math.min(year, most[p] - 1);
            }
            most[paper] = year;
        }

        boolean isYounger(int wall, int other) {
            for (int s = 0; s < spots.number; s++) {
                int lowest = spots.layer(s, 0);
                boolean there = spots.wall(s) == other && house.isPaper(lowest);
                if (there && most[lowest] < house.built[wall]) return true;
            }
            return false;
        }

        int scrapedOff(int wall) {
            int aheadOfOne = 0;
            for (int p = 0; p < MOST; p++) {
                if (has(on[wall], p)) aheadOfOne |= sure[p];
            }
            int some = 0;
            for (int p = 0; p < MOST; p++) {
                boolean between = has(aheadOfOne, p) && (sure[p] & on[wall]) != 0;
                if (between && !has(on[wall], p)) some |= 1 << p;
            }
            return some;
        }

        int neverThere(int wall) {
            int some = 0;
            for (int p = 0; p < MOST; p++) {
                if (has(seen & ~on[wall], p) && most[p] < house.built[wall]) some |= 1 << p;
            }
            return some;
        }

        int whoCan(int paper) {
            int some = 0;
            for (int t = 0; t < house.tenants; t++) {
                int from = Math.max(house.from[t], least[paper]);
                int to = Math.min(house.to[t], most[paper]);
                if (from <= to && house.means[t] >= house.prices[paper]) some |= 1 << t;
            }
            return some;
        }

        int missingAt(int spot) {
            int wall = spots.wall(spot);
            return house.isWall(wall) ? on[wall] & ~at(spot) : 0;
        }

        int leastOf(int some) {
            int year = FAR;
            for (int p = 0; p < MOST; p++) {
                if (has(some, p)) year = Math.min(year, least[p]);
            }
            return year;
        }

        int mostOf(int some) {
            int year = 0;
            for (int p = 0; p < MOST; p++) {
                if (has(some, p)) year = Math.max(year, most[p]);
            }
            return year;
        }
    }

    /** Counts orders by sets: 1024 sets stand for up to 3628800 orders. */
    private static final class Orders {
        static final int MOST = House.MOST_PAPERS;

        final Facts facts;
        boolean counted;
        /** Of a set: in how many rows its papers can stand first. */
        final int[] begun = new int[1 << MOST];
        /** Of a set that can stand first: in how many rows all others can follow. */
        final int[] ended = new int[1 << MOST];
        /** At 10 a + b: in how many orders a stands ahead of b. */
        final int[] pairs = new int[MOST * MOST];

        Orders(Facts facts) {
            this.facts = facts;
        }

        int all() {
            countOnce();
            return begun[facts.seen];
        }

        int withAhead(int a, int b) {
            countOnce();
            return pairs[MOST * a + b];
        }

        /** 10 a + b of the first pair, a below b, whose greater part is least; -1: all is sure. */
        int mostEvenPair() {
            int all = all();
            int best = -1;
            int bestPart = all + 1;
            for (int a = 0; a < MOST; a++) {
                for (int b = a + 1; b < MOST; b++) {
                    int part = Math.max(withAhead(a, b), all - withAhead(a, b));
                    if (isOpen(a, b) && part < bestPart) {
                        best = MOST * a + b;
                        bestPart = part;
                    }
                }
            }
            return best;
        }

        boolean isOpen(int a, int b) {
            boolean bothSeen = has(facts.seen, a) && has(facts.seen, b);
            return bothSeen && !has(facts.sure[a], b) && !has(facts.sure[b], a);
        }

        void countOnce() {
            if (counted) return;
            Arrays.fill(begun, 0);
            Arrays.fill(ended, 0);
            Arrays.fill(pairs, 0);
            begun[0] = 1;
            for (int some = 0; some < facts.seen; some++) {
                if (begun[some] != 0) countBegun(some);
            }
            ended[facts.seen] = 1;
            for (int some = facts.seen - 1; some >= 0; some--) {
                if (begun[some] != 0) countEnded(some);
            }
            counted = true;
        }

        void countBegun(int some) {
            for (int p = 0; p < MOST; p++) {
                if (facts.canFollow(some, p)) begun[some | 1 << p] += begun[some];
            }
        }

        void countEnded(int some) {
            for (int p = 0; p < MOST; p++) {
                if (!facts.canFollow(some, p)) continue;
                int rows = ended[some | 1 << p];
                ended[some] += rows;
                countPairs(some, p, begun[some] * rows);
            }
        }

        void countPairs(int some, int paper, int rows) {
            for (int a = 0; a < MOST; a++) {
                if (has(some, a)) pairs[MOST * a + paper] += rows;
            }
        }
    }

    /** Cuts strips from rolls. */
    private static final class Cutter {
        static final int STRIP = 50, ROLL = 1000, PAINTED = 500;

        int strips;
        int used;
        int left;

        void cut(House house, int paper, int walls) {
            strips = 0;
            used = 0;
            left = 0;
            if (house.isOf(paper, House.PAINT)) {
                used = partsUp(widthOf(house, walls), PAINTED);
                return;
            }
            for (int w = 0; w < house.walls; w++) {
                if (has(walls, w)) cutWall(house, paper, w);
            }
        }

        int widthOf(House house, int walls) {
            int sum = 0;
            for (int w = 0; w < house.walls; w++) {
                if (has(walls, w)) sum += house.wide[w];
            }
            return sum;
        }

        void cutWall(House house, int paper, int wall) {
            int repeat = house.repeats[paper];
            int length = partsUp(house.high[wall], repeat) * repeat;
            int wanted = partsUp(house.wide[wall], STRIP);
            for (int strip = 0; strip < wanted; strip++) {
                if (left < length) {
                    used++;
                    left = ROLL;
                }
                left -= length;
                strips++;
            }
        }
    }

    /** Answers asks of papers, and remembers which bodies began. */
    private static final class Bodies {
        static final int MOST = 16, DEEPEST = 16;
        /** Of each kind the body that begins when it is asked. */
        static final int[] SIZES = {10, 11, 13, 14, 12, 10};
        static final int[] MARKS = {20, 21, 22, 22, 24, 23};

        final int[] trace = new int[MOST];
        int begun;

        int askSize(House house, int paper) {
            begun = 0;
            return answer(house, paper, told(SIZES, house, paper), 0);
        }

        int askMark(House house, int paper) {
            begun = 0;
            return answer(house, paper, told(MARKS, house, paper), 0);
        }

        static int told(int[] bodies, House house, int paper) {
            int kind = house.isPaper(paper) ? house.kinds[paper] : House.PAPER;
            return kind >= 0 && kind < bodies.length ? bodies[kind] : 0;
        }

        private int answer(House house, int paper, int body, int depth) {
            if (depth > DEEPEST || !house.isPaper(paper)) return 0;
            begin(body);
            int on = depth + 1;
            switch (body) {
                case 10: return house.repeats[paper];
                case 11: return answer(house, paper, 10, on) + answer(house, paper, told(MARKS, house, paper), on);
                case 12: return 0 - answer(house, paper, 11, on);
                case 13: return answer(house, paper, 10, on) - house.prices[paper];
                case 14: return 2 * answer(house, paper, 13, on);
                case 20: return paper;
                case 21: return answer(house, paper, 20, on) + house.prices[paper];
                case 22: return answer(house, paper, 20, on) + house.made[paper];
                case 23: return answer(house, paper, 20, on) - answer(house, paper, told(SIZES, house, paper), on);
                case 24: return answer(house, paper, 21, on) - 1000;
                default: return 0;
            }
        }

        void begin(int body) {
            if (begun >= MOST) return;
            trace[begun] = body;
            begun++;
        }
    }
}
