import java.util.function.Supplier;

/** Boundaries of promises 23 to 27 (scrap, tells, rolls, image, restore), and of what part 3 of the Terms says of these. */
public final class EdgeScrapsTest {
    private static final int LEAST = Integer.MIN_VALUE, MOST = Integer.MAX_VALUE;

    public static void main(String[] args) {
        heights();
        goesInto();
        tellsLength();
        tellsUnlike();
        tellsNone();
        strips();
        wholeRepeats();
        rollsLong();
        longEnough();
        wallByWall();
        paint();
        scrap();
        scrapBad();
        scrapState();
        tells();
        tellsBad();
        tellsState();
        rolls();
        rollsBad();
        image();
        imageBad();
        imageState();
        restore();
        restoreBad();
        restoreState();
        Due.end();
    }

    /** Papers of one sort with told repeats. */
    private static PaperedOver repeats(String sort, int... repeats) {
        StringBuilder text = new StringBuilder("wall 1700 50 100;");
        for (int r : repeats) text.append("paper ").append(sort).append(" 1700 1700 0 ").append(r).append(";");
        return Due.standing(text.toString());
    }

    private static void heights() {
        Edge.terms(3, 23, "SCRAP: one print at heights h and k (0 to 400)");
        Supplier<PaperedOver> start = () -> repeats("plain", 1, 2, 3);
        for (int h : new int[] {-1, 401}) {
            Edge.still(start, Due.BAD, "scrap", h, 0);
            Edge.still(start, Due.BAD, "scrap", 400, h);
        }
        Edge.still(start, 0b111, "scrap", 0, 0);
        Edge.still(start, 0b001, "scrap", 1, 0);
        Edge.still(start, 0b111, "scrap", 399, 399);
        Edge.still(start, 0b111, "scrap", 400, 400);
        Edge.still(start, 0b101, "scrap", 0, 399);
        Edge.still(start, 0b011, "scrap", 0, 400);
        Edge.still(start, 0b011, "scrap", 400, 0);
    }

    private static void goesInto() {
        Edge.terms(3, 23, "PAPERS (bits), no paint, whose REPEAT goes into how far both are apart.");
        PaperedOver x = repeats("stamp", 1, 98, 99);
        int[][] dues = {{0, 0b111}, {1, 0b001}, {97, 0b001}, {98, 0b011}, {99, 0b101}, {100, 0b001},
            {197, 0b001}, {198, 0b101}, {199, 0b001}, {196, 0b011}, {392, 0b011}, {396, 0b101}};
        for (int[] due : dues) {
            Edge.due(x, due[1], "scrap", 0, due[0]);
            Edge.due(x, due[1], "scrap", 400, 400 - due[0]);
            Edge.due(x, due[1], "scrap", 400 - due[0], 400);
        }
        for (int far : new int[] {0, 1, 400}) Edge.due(repeats("paint", 1, 1), 0, "scrap", 0, far);
        for (String sort : new String[] {"plain", "news", "stamp", "rest"}) Edge.due(repeats(sort, 1), 1, "scrap", 0, 0);
        Edge.due(repeats("rest", 1, 1, 1, 1, 1, 1, 1, 1, 1, 1), 1023, "scrap", 0, 400);
        Edge.due(Due.standing("wall 1700 50 100;"), 0, "scrap", 0, 0);
    }

    private static void tellsLength() {
        Edge.terms(3, 24, "TELLS: the least length (1 to 99)");
        Edge.due(repeats("plain", 99), 1, "tells", 1);
        Edge.due(repeats("plain", 98, 99), 2, "tells", 3);
        Edge.due(repeats("plain", 1, 99), 3, "tells", 3);
        Edge.due(repeats("plain", 1, 61), 7, "tells", 3);
        // The greatest lengths: ten repeats, of which two are as far apart as each lesser length, or twice or thrice so far.
        Edge.due(repeats("plain", 99, 42, 5, 73, 1, 3, 47, 59, 56, 9), 59, "tells", 1023);
        Edge.due(repeats("plain", 7, 55, 52, 8, 6, 38, 41, 93, 1, 91), 56, "tells", 1023);
        Edge.due(repeats("plain", 1, 2, 3, 4, 5, 6, 7, 8, 9, 10), 10, "tells", 1023);
        Edge.due(repeats("plain", 90, 91, 92, 93, 94, 95, 96, 97, 98, 99), 10, "tells", 1023);
    }

    private static void tellsUnlike() {
        Edge.terms(3, 24, "by which what is left of REPEAT by it is unlike for each two of told PAPERS");
        PaperedOver x = repeats("paint", 4, 5, 6, 10);
        Edge.due(x, 2, "tells", 0b0011);
        Edge.due(x, 3, "tells", 0b0101);
        Edge.due(x, 4, "tells", 0b1001);
        Edge.due(x, 3, "tells", 0b0111);
        Edge.due(x, 3, "tells", 0b1100);
        // By 4, 5 and 6 two of the four are alike; by 7 what is left is 4, 5, 6 and 3.
        Edge.due(x, 7, "tells", 0b1111);
        for (int one = 1; one <= 8; one <<= 1) Edge.due(x, 1, "tells", one);
        Edge.due(x, 1, "tells", 0);
    }

    private static void tellsNone() {
        Edge.terms(3, 24, "told PAPERS; NONE.");
        PaperedOver x = repeats("rest", 99, 1, 99, 2);
        Edge.due(x, Due.NONE, "tells", 0b0101);
        Edge.due(x, Due.NONE, "tells", 0b1111);
        Edge.due(x, 1, "tells", 0b0100);
        Edge.due(x, 3, "tells", 0b1011);
    }

    /** One wall and one paper. */
    private static PaperedOver one(int wide, int high, String sort, int repeat) {
        return Due.standing("wall 1700 " + wide + " " + high + ";paper " + sort + " 1700 1700 0 " + repeat + ";");
    }

    private static void three(PaperedOver x, int walls, int strips, int rolls, int left) {
        int[] dues = {strips, rolls, left};
        for (int what = 0; what <= 2; what++) Edge.due(x, dues[what], "rolls", 0, walls, what);
    }

    private static void strips() {
        Edge.terms(3, 25, "ROLLS of a PAPER for told WALLS: of each WALL so many strips as WIDE by 50, up");
        int[][] dues = {{50, 1}, {51, 2}, {99, 2}, {100, 2}, {101, 3}, {949, 19}, {950, 19}, {951, 20}, {998, 20}, {999, 20}};
        for (int[] due : dues) Edge.due(one(due[0], 100, "plain", 1), due[1], "rolls", 0, 1, 0);
        // Each wall by itself: two of 51 take two each, not three together.
        PaperedOver x = Due.standing("wall 1700 51 100;wall 1700 51 100;wall 1700 50 100;paper plain 1700 1700 0 1;");
        int[] strips = {0, 2, 2, 4, 1, 3, 3, 5};
        for (int walls = 0; walls <= 7; walls++) Edge.due(x, strips[walls], "rolls", 0, walls, 0);
    }

    private static void wholeRepeats() {
        Edge.terms(3, 25, "each is HIGH long, up to a whole number of REPEATS");
        int[][] dues = {{100, 1, 100}, {100, 49, 147}, {100, 50, 100}, {100, 51, 102}, {101, 50, 150}, {100, 99, 198}, {197, 99, 198},
            {198, 99, 198}, {199, 99, 297}, {396, 99, 396}, {397, 99, 495}, {400, 99, 495}, {400, 98, 490}, {400, 80, 400},
            {399, 80, 400}, {400, 1, 400}, {399, 2, 400}};
        for (int[] due : dues) three(one(50, due[0], "news", due[1]), 1, 1, 1, 1000 - due[2]);
    }

    private static void rollsLong() {
        Edge.terms(3, 25, "from rolls 1000 long");
        three(one(200, 249, "stamp", 1), 1, 4, 1, 4);
        three(one(200, 250, "stamp", 1), 1, 4, 1, 0);
        three(one(201, 250, "stamp", 1), 1, 5, 2, 750);
        three(one(200, 251, "stamp", 1), 1, 4, 2, 749);
        three(one(150, 333, "stamp", 1), 1, 3, 1, 1);
        three(one(150, 334, "stamp", 1), 1, 3, 2, 666);
        three(one(500, 100, "stamp", 1), 1, 10, 1, 0);
        three(one(501, 100, "stamp", 1), 1, 11, 2, 900);
        three(Due.standing("wall 1700 999 400;".repeat(8) + "paper rest 1700 1700 0 99;"), 255, 160, 80, 10);
    }

    private static void longEnough() {
        Edge.terms(3, 25, "from what is left of the roll, if it is long enough, else from a new one: strips, rolls, what is left of the last roll.");
        // Two strips of 300 leave 400: 399 and 400 still fit.
        three(walls(100, 300, 50, 399), 3, 3, 1, 1);
        three(walls(100, 300, 50, 400), 3, 3, 1, 0);
        // Two of 301 leave 398.
        three(walls(100, 301, 50, 398), 3, 3, 1, 0);
        three(walls(100, 301, 50, 399), 3, 3, 2, 601);
        // What was left of an earlier roll is not taken up again.
        PaperedOver x = Due.standing("wall 1700 100 350;wall 1700 50 400;wall 1700 50 300;wall 1700 50 300;paper plain 1700 1700 0 1;");
        three(x, 15, 5, 2, 0);
        three(x, 1, 2, 1, 300);
        three(x, 5, 3, 1, 0);
        three(x, 7, 4, 2, 300);
        three(x, 0, 0, 0, 0);
    }

    private static PaperedOver walls(int wide, int high, int otherWide, int otherHigh) {
        return Due.standing("wall 1700 " + wide + " " + high + ";wall 1700 " + otherWide + " " + otherHigh + ";paper plain 1700 1700 0 1;");
    }

    private static void wallByWall() {
        Edge.terms(3, 25, "they are cut one by one, WALL by WALL");
        // The same strips, but in three orders of their walls: three rests.
        three(Due.standing("wall 1700 100 400;wall 1700 50 300;wall 1700 50 200;paper plain 1700 1700 0 1;"), 7, 4, 2, 500);
        three(Due.standing("wall 1700 50 200;wall 1700 50 300;wall 1700 100 400;paper plain 1700 1700 0 1;"), 7, 4, 2, 600);
        three(Due.standing("wall 1700 50 300;wall 1700 100 400;wall 1700 50 200;paper plain 1700 1700 0 1;"), 7, 4, 2, 400);
    }

    private static void paint() {
        Edge.terms(3, 25, "Paint: no strips, a roll for each 500 of WIDE of all together, up, nothing is left.");
        int[][] dues = {{50, 1}, {499, 1}, {500, 1}, {501, 2}, {999, 2}};
        for (int[] due : dues) three(one(due[0], 400, "paint", 99), 1, 0, due[1], 0);
        PaperedOver x = Due.standing("wall 1700 500 100;wall 1700 499 100;wall 1700 50 100;wall 1700 501 100;wall 1700 451 100;paper paint 1700 1700 0 1;");
        int[][] together = {{0b00000, 0}, {0b00011, 2}, {0b01010, 2}, {0b01001, 3}, {0b00101, 2}, {0b10100, 2}, {0b10010, 2}, {0b11111, 5}};
        for (int[] due : together) three(x, due[0], 0, due[1], 0);
        three(Due.standing("wall 1700 999 400;".repeat(8) + "paper paint 1700 1700 0 99;"), 255, 0, 16, 0);
    }

    private static void scrap() {
        Edge.promise(23, "SCRAP.");
        int[][] dues = {{0, 0, 0b101111}, {0, 1, 0}, {7, 0, 0b000010}, {0, 50, 0b000001}, {30, 0, 0b000100}, {60, 0, 0b001100}, {0, 99, 0b100000}, {400, 0, 0b000001}};
        for (int[] due : dues) Edge.still(Starts::lifted, due[2], "scrap", due[0], due[1]);
    }

    private static void scrapBad() {
        Edge.promise(23, "BAD");
        for (int h : new int[] {LEAST, -1, 401, 402, MOST}) {
            for (int k : new int[] {0, 400, -1, 401}) {
                Edge.still(Starts::lifted, Due.BAD, "scrap", h, k);
                Edge.still(Starts::lifted, Due.BAD, "scrap", k, h);
            }
        }
    }

    private static void scrapState() {
        Edge.promise(23, "STATE: no HOUSE (ahead of BAD).");
        for (int h : new int[] {LEAST, -1, 0, 400, 401, MOST}) {
            Edge.still(Starts::bare, Due.STATE, "scrap", h, 0);
            Edge.still(PaperedOver::new, Due.STATE, "scrap", 0, h);
        }
    }

    private static void tells() {
        Edge.promise(24, "TELLS for PAPERS (a set of those there are); NONE.");
        // Repeats 50, 7, 30, 12, 1, 99.
        int[][] dues = {{0, 1}, {1, 1}, {0b100000, 1}, {0b000011, 2}, {0b000101, 3}, {0b100001, 2}, {0b010010, 4}};
        for (int[] due : dues) Edge.still(Starts::lifted, due[1], "tells", due[0]);
        Edge.still(() -> repeats("plain", 5, 5), Due.NONE, "tells", 3);
        Edge.still(() -> Due.standing("wall 1700 50 100;"), 1, "tells", 0);
    }

    private static void tellsBad() {
        Edge.promise(24, "BAD");
        for (int some : new int[] {LEAST, -1, 64, 65, 1 << 10, 1 << 30, MOST}) Edge.still(Starts::lifted, Due.BAD, "tells", some);
        Edge.due(repeats("plain", 1, 2, 3, 4, 5, 6), 6, "tells", 63);
        Supplier<PaperedOver> ten = () -> Due.standing(Due.plain(1, 10));
        Edge.still(ten, Due.NONE, "tells", 1023);
        Edge.still(ten, Due.BAD, "tells", 1024);
        Supplier<PaperedOver> none = () -> Due.standing("wall 1700 50 100;");
        for (int some : new int[] {-1, 1}) Edge.still(none, Due.BAD, "tells", some);
    }

    private static void tellsState() {
        Edge.promise(24, "STATE: no HOUSE (ahead of BAD).");
        for (int some : new int[] {LEAST, -1, 0, 1, MOST}) {
            Edge.still(Starts::bare, Due.STATE, "tells", some);
            Edge.still(PaperedOver::new, Due.STATE, "tells", some);
        }
    }

    private static void rolls() {
        Edge.promise(25, "ROLLS for WALLS (a set of those there are): strips (what = 0; 0 for paint), rolls (1), what is left of the last one (2; 0: no rolls).");
        // Walls 120 by 250, 60 by 300, 999 by 400; repeats 50 and 1 (paint).
        int[][] plain = {{0, 0, 0, 0}, {1, 3, 1, 250}, {2, 2, 1, 400}, {3, 5, 2, 400}, {4, 20, 10, 200}, {7, 25, 12, 600}};
        for (int[] due : plain) {
            for (int what = 0; what <= 2; what++) Edge.still(Starts::lifted, due[1 + what], "rolls", 0, due[0], what);
        }
        int[][] paint = {{0, 0, 0, 0}, {1, 0, 1, 0}, {4, 0, 2, 0}, {7, 0, 3, 0}};
        for (int[] due : paint) {
            for (int what = 0; what <= 2; what++) Edge.still(Starts::lifted, due[1 + what], "rolls", 4, due[0], what);
        }
    }

    private static void rollsBad() {
        Edge.promise(25, "BAD.");
        for (int p : new int[] {LEAST, -1, 6, 10, MOST}) Edge.still(Starts::lifted, Due.BAD, "rolls", p, 1, 0);
        for (int walls : new int[] {LEAST, -1, 8, 9, 256, MOST}) Edge.still(Starts::lifted, Due.BAD, "rolls", 0, walls, 0);
        for (int what : new int[] {LEAST, -1, 3, MOST}) Edge.still(Starts::lifted, Due.BAD, "rolls", 0, 1, what);
        Edge.still(Starts::lifted, 10, "rolls", 5, 7, 2);
        Edge.still(Starts::bare, Due.BAD, "rolls", 0, 0, 0);
        Edge.still(() -> Due.standing("wall 1700 50 100;"), Due.BAD, "rolls", 0, 0, 0);
        Supplier<PaperedOver> most = () -> Due.standing(Due.plain(8, 1));
        Edge.still(most, 16, "rolls", 0, 255, 0);
        Edge.still(most, Due.BAD, "rolls", 0, 256, 0);
    }

    private static void image() {
        Edge.promise(26, "An IMAGE (0, 1) is kept of the HOUSE and SPOTS: 1.");
        for (int k = 0; k <= 1; k++) {
            PaperedOver x = Starts.full();
            Edge.due(x, 1, "image", k);
            Edge.due(x, 3, "status");
            Edge.due(x, 1, "house");
            Edge.due(x, k == 0 ? Due.STATE : 1, "restore", 1 - k);
            Edge.due(x, 1, "restore", k);
            Edge.due(x, 3, "count", 1);
            Edge.due(x, 6, "count", 2);
            Edge.due(x, 2, "count", 3);
            Edge.due(x, 9, "count", 4);
            // Kept once more of the same, it is the same, and all else, too.
            int same = k;
            Edge.still(() -> kept(same), 1, "image", k);
        }
        PaperedOver x = kept(1);
        Edge.due(x, 1, "restore", 0);
        Edge.due(x, 1, "count", 4);
        Edge.due(x, 1, "image", 1);
        Edge.due(x, 1, "house");
        Edge.due(x, 1, "restore", 1);
        Edge.due(x, 1, "count", 4);
    }

    /** Nine SPOTS, and an IMAGE of them. */
    private static PaperedOver kept(int k) {
        PaperedOver x = Starts.full();
        x.image(k);
        return x;
    }

    private static void imageBad() {
        Edge.promise(26, "BAD");
        for (int k : new int[] {LEAST, -1, 2, 3, MOST}) {
            Edge.still(Starts::lifted, Due.BAD, "image", k);
            Edge.still(Starts::bare, Due.BAD, "image", k);
        }
    }

    private static void imageState() {
        Edge.promise(26, "STATE: no HOUSE.");
        for (int k = 0; k <= 1; k++) {
            Edge.still(Starts::bare, Due.STATE, "image", k);
            Edge.still(PaperedOver::new, Due.STATE, "image", k);
            Edge.due(Due.standing("wall 1700 50 100;"), 1, "image", k);
        }
    }

    private static void restore() {
        Edge.promise(27, "These are as an IMAGE kept them: 1.");
        for (int k = 0; k <= 1; k++) {
            int same = k;
            Edge.still(() -> kept(same), 1, "restore", k);
        }
        restoreLeast();
        restoreMost();
        restoreRing();
    }

    private static void restoreLeast() {
        PaperedOver x = Due.standing("wall 1700 50 100;");
        x.image(0);
        Due.house(x, Due.plain(8, 10));
        Due.lift(x, 7, 9, 8);
        Edge.due(x, 1, "restore", 0);
        int[] counts = {1, 1, 0, 0, 0, 0};
        for (int what = 0; what <= 5; what++) Edge.due(x, counts[what], "count", what);
        Edge.due(x, 0, "papers", 0);
        Edge.due(x, Due.BAD, "papers", 10);
        Edge.due(x, 0, "papers", 30);
        Edge.due(x, Due.BAD, "papers", 31);
        Edge.due(x, 1, "orders");
        Edge.due(x, Due.STATE, "forget");
    }

    private static void restoreMost() {
        PaperedOver x = Due.standing(Due.plain(8, 10));
        for (int s = 0; s < 9; s++) Due.lift(x, 7 - s % 8, 9, 8, 7, 6, 5, 4, 3, 2);
        x.image(1);
        Due.house(x, Due.plain(3, 5));
        for (int s = 0; s < 9; s++) Due.lift(x, s % 3, 0, 4);
        Edge.due(x, 1, "restore", 1);
        Edge.due(x, 8, "count", 1);
        Edge.due(x, 10, "count", 2);
        Edge.due(x, 9, "count", 4);
        for (int s = 0; s < 9; s++) {
            Edge.due(x, 7 - s % 8, "spot", s, -1);
            for (int k = 0; k < 8; k++) Edge.due(x, 9 - k, "spot", s, k);
            Edge.due(x, Due.NONE, "spot", s, 8);
        }
        Edge.is("no room for one more", Due.lift(x, 0, 0), Due.FULL);
    }

    private static void restoreRing() {
        PaperedOver x = Starts.ringed();
        x.image(1);
        Edge.due(x, 4, "forget");
        Edge.due(x, 0, "papers", 1);
        Edge.due(x, 1, "restore", 1);
        Edge.due(x, 7, "papers", 1);
        Edge.due(x, 0, "orders");
        Edge.due(x, Due.STATE, "next");
        Edge.due(x, 1, "restore", 0);
        Edge.due(x, 0, "papers", 1);
        Edge.due(x, 1, "orders");
        Edge.due(x, Due.NONE, "next");
    }

    private static void restoreBad() {
        Edge.promise(27, "BAD");
        for (int k : new int[] {LEAST, -1, 2, 3, MOST}) {
            Edge.still(Starts::lifted, Due.BAD, "restore", k);
            Edge.still(Starts::bare, Due.BAD, "restore", k);
        }
    }

    private static void restoreState() {
        Edge.promise(27, "STATE: none was kept.");
        for (int k = 0; k <= 1; k++) {
            Edge.still(Starts::bare, Due.STATE, "restore", k);
            Edge.still(PaperedOver::new, Due.STATE, "restore", k);
            Edge.still(() -> Due.standing("wall 1700 50 100;"), Due.STATE, "restore", k);
        }
        Edge.still(Starts::lifted, Due.STATE, "restore", 1);
        Edge.due(Starts.lifted(), 1, "restore", 0);
    }
}
