import java.util.function.Supplier;

/** Boundaries of promises 9 to 13 (lift, forget, spot, papers, paper), and of part 2 of the Terms. */
public final class EdgeSpotsTest {
    private static final int LEAST = Integer.MIN_VALUE, MOST = Integer.MAX_VALUE;

    public static void main(String[] args) {
        oneToEight();
        unlike();
        nineSpots();
        seen();
        onWall();
        ahead();
        ring();
        sure();
        behindAllAhead();
        withoutSpots();
        liftItems();
        liftBad();
        liftFull();
        liftNull();
        liftPlace();
        liftBadItems();
        forgetLatest();
        forgetNone();
        spotLayers();
        spotNone();
        spotBad();
        papersWhat();
        papersBad();
        papersState();
        paperWhat();
        paperBad();
        Due.end();
    }

    /** Two walls, ten papers; ROW 0 has the papers from 9 down to 0. */
    private static PaperedOver ten() {
        PaperedOver x = Due.standing(Due.plain(2, 10));
        Starts.fill(x, 0, 0, 9, 8, 7, 6, 5, 4, 3, 2, 1, 0);
        return x;
    }

    /** Ten papers in one chain over two spots, by rising numbers. */
    private static PaperedOver chain() {
        PaperedOver x = ten();
        Due.lift(x, 0, 0, 1, 2, 3, 4, 5, 6, 7);
        Due.lift(x, 1, 7, 8, 9);
        return x;
    }

    private static PaperedOver nine() {
        PaperedOver x = ten();
        for (int s = 0; s < 9; s++) Due.lift(x, 0, s);
        return x;
    }

    private static void oneToEight() {
        Edge.terms(2, 9, "A SPOT: on a WALL a row of 1 to 8");
        for (int n : new int[] {0, 9}) Edge.still(EdgeSpotsTest::ten, Due.BAD, "lift", 0, 0, 0, n);
        for (int n : new int[] {1, 2, 7, 8}) {
            PaperedOver x = ten();
            Edge.due(x, 0, "lift", 1, 0, 0, n);
            Edge.due(x, 1, "spot", 0, -1);
            for (int k = 0; k < n; k++) Edge.due(x, 9 - k, "spot", 0, k);
            Edge.due(x, Due.NONE, "spot", 0, n);
        }
    }

    private static void unlike() {
        Edge.terms(2, 9, "unlike PAPERS, as they lie from the wall on");
        int[][] twice = {{3, 3}, {3, 4, 3}, {0, 1, 2, 3, 4, 5, 6, 0}, {9, 1, 2, 3, 4, 5, 8, 8}, {9, 9, 1, 2, 3, 4, 5, 6}};
        for (int[] items : twice) {
            Supplier<PaperedOver> start = () -> {
                PaperedOver x = ten();
                Starts.fill(x, 1, 0, items);
                return x;
            };
            Edge.still(start, Due.BAD, "lift", 0, 1, 0, items.length);
            Edge.due(start.get(), 0, "lift", 0, 1, 0, 1);
        }
        PaperedOver x = ten();
        Edge.is("the same at another spot", Due.lift(x, 0, 3), 0);
        Edge.is("and at one more", Due.lift(x, 0, 3), 1);
    }

    private static void nineSpots() {
        Edge.terms(2, 9, "9 SPOTS at most are LIFTED, numbered as they come.");
        PaperedOver x = ten();
        for (int s = 0; s < 9; s++) {
            Edge.due(x, s, "count", 4);
            Edge.due(x, s, "lift", s % 2, 0, s, 1);
        }
        Edge.due(x, 9, "count", 4);
        for (int s = 0; s < 9; s++) Edge.due(x, 9 - s, "spot", s, 0);
        Edge.still(EdgeSpotsTest::nine, Due.FULL, "lift", 0, 0, 0, 1);
        Edge.due(x, 8, "forget");
        Edge.due(x, 8, "lift", 0, 0, 9, 1);
        Edge.due(x, 0, "spot", 8, 0);
    }

    private static void seen() {
        Edge.terms(2, 12, "A PAPER is SEEN, if it lies at some SPOT");
        PaperedOver x = ten();
        Edge.due(x, 0, "papers", 0);
        Edge.due(x, 0, "lift", 0, 0, 1, 8);
        Edge.due(x, 0b0111111110, "papers", 0);
        Edge.due(x, Due.BAD, "years", 0, 0);
        Edge.due(x, 1707, "years", 1, 0);
        Edge.due(x, 1700, "years", 8, 0);
        Edge.due(x, Due.BAD, "years", 9, 0);
        Edge.due(x, 0, "forget");
        Edge.due(x, 0, "papers", 0);
    }

    private static void onWall() {
        Edge.terms(2, 12, "ON a WALL, if at a SPOT of that.");
        PaperedOver x = Due.standing(Due.plain(8, 10));
        Due.lift(x, 0, 0, 9);
        Due.lift(x, 7, 9, 4);
        Due.lift(x, 7, 3);
        int[] on = {1 << 9 | 1, 0, 0, 0, 0, 0, 0, 1 << 9 | 1 << 4 | 1 << 3};
        for (int w = 0; w < 8; w++) Edge.due(x, on[w], "papers", 30 + w);
    }

    private static void ahead() {
        Edge.terms(2, 18, "One comes AHEAD of another, if it lies right below it at some SPOT.");
        PaperedOver x = ten();
        Due.lift(x, 0, 0, 1, 2, 3, 4, 5, 6, 7);
        Due.lift(x, 0, 9);
        for (int p = 0; p < 8; p++) {
            Edge.due(x, 1700 + p, "years", p, 0);
            Edge.due(x, 1992 + p, "years", p, 1);
        }
        Edge.due(x, 1700, "years", 9, 0);
        Edge.due(x, 1999, "years", 9, 1);
    }

    private static void ring() {
        Edge.terms(2, 12, "A RING: PAPERS each of which comes AHEAD of the next, the last one of the first.");
        PaperedOver x = ten();
        Due.lift(x, 0, 3, 4);
        Due.lift(x, 1, 3, 4);
        Edge.due(x, 0, "papers", 1);
        Due.lift(x, 1, 4, 3);
        Edge.due(x, 1 << 3 | 1 << 4, "papers", 1);
        PaperedOver ten = chain();
        Edge.due(ten, 0, "papers", 1);
        Due.lift(ten, 0, 0, 9);
        Edge.due(ten, 0, "papers", 1);
        Due.lift(ten, 0, 9, 0);
        Edge.due(ten, 1023, "papers", 1);
        Edge.due(ten, 3, "forget");
        Due.lift(ten, 0, 9, 1);
        Edge.due(ten, 1022, "papers", 1);
        Edge.due(ten, 3, "forget");
        Due.lift(ten, 0, 8, 0);
        Edge.due(ten, 511, "papers", 1);
    }

    private static void sure() {
        Edge.terms(2, 12, "SURE: one comes AHEAD of another, or of one that is SURE ahead of it.");
        PaperedOver x = chain();
        for (int p = 0; p < 10; p++) Edge.due(x, (1 << p) - 1, "papers", 10 + p);
        PaperedOver y = ten();
        Due.lift(y, 1, 2, 1, 0);
        Due.lift(y, 0, 9, 8, 7, 6, 5, 4, 3, 2);
        for (int p = 0; p < 10; p++) Edge.due(y, 1023 & -1 << p + 1, "papers", 10 + p);
        Due.lift(y, 0, 0, 9);
        for (int p = 0; p < 10; p++) Edge.due(y, 1023, "papers", 10 + p);
        PaperedOver two = ten();
        Due.lift(two, 0, 5, 6);
        Edge.due(two, 0, "papers", 15);
        Edge.due(two, 1 << 5, "papers", 16);
        Edge.due(two, 0, "papers", 17);
    }

    private static void behindAllAhead() {
        Edge.terms(2, 14, "ORDERS: rows of all SEEN PAPERS, in which each stands behind all that come AHEAD of it.");
        PaperedOver x = ten();
        Due.lift(x, 0, 4);
        Edge.due(x, 1, "orders");
        Due.lift(x, 0, 2);
        Edge.due(x, 2, "orders");
        Due.lift(x, 0, 4, 2);
        Edge.due(x, 1, "orders");
        PaperedOver all = chain();
        Edge.due(all, 1, "orders");
        for (int p = 0; p < 10; p++) Edge.due(all, p, "first", p);
        Edge.due(all, Due.NONE, "first", 10);
        Edge.due(nine(), 362880, "orders");
    }

    private static void withoutSpots() {
        Edge.terms(2, 14, "(Without SPOTS one, of nothing; with a RING none.)");
        PaperedOver x = ten();
        Edge.due(x, 1, "orders");
        Edge.due(x, Due.NONE, "first", 0);
        Due.lift(x, 0, 1, 0);
        Edge.due(x, 1, "orders");
        Edge.due(x, 1, "first", 0);
        Due.lift(x, 0, 0, 1);
        Edge.due(x, 0, "orders");
        Edge.due(x, Due.NONE, "first", 0);
        Due.lift(x, 0, 5);
        Edge.due(x, 0, "orders");
        Edge.due(x, Due.NONE, "first", 0);
    }

    private static void liftItems() {
        Edge.promise(9, "A SPOT on a WALL: n PAPERS (1 to 8), ITEMS of a ROW from i on: its number.");
        PaperedOver x = ten();
        int[][] fit = {{0, 8}, {2, 8}, {9, 1}, {0, 1}};
        for (int s = 0; s < fit.length; s++) {
            Edge.due(x, s, "lift", s % 2, 0, fit[s][0], fit[s][1]);
            Edge.due(x, s % 2, "spot", s, -1);
            Edge.due(x, 9 - fit[s][0], "spot", s, 0);
            Edge.due(x, 10 - fit[s][0] - fit[s][1], "spot", s, fit[s][1] - 1);
            Edge.due(x, Due.NONE, "spot", s, fit[s][1]);
        }
        for (int lane = 0; lane <= 2; lane++) {
            Starts.fill(x, 7, lane, 3);
            Edge.due(x, 4 + lane, "lift", 0, 7, 0, 1);
        }
    }

    private static void liftBad() {
        Edge.promise(9, "BAD: WALL, ROW, n");
        for (int wall : new int[] {LEAST, -1, 2, 3, 7, 8, MOST}) Edge.still(EdgeSpotsTest::ten, Due.BAD, "lift", wall, 0, 0, 1);
        for (int row : new int[] {LEAST, -1, 8, MOST}) Edge.still(EdgeSpotsTest::ten, Due.BAD, "lift", 0, row, 0, 1);
        for (int n : new int[] {LEAST, -1, 0, 9, 10, MOST}) {
            Edge.still(EdgeSpotsTest::ten, Due.BAD, "lift", 0, 0, 0, n);
            Edge.still(EdgeSpotsTest::nine, Due.BAD, "lift", 0, 0, 0, n);
            Edge.still(EdgeSpotsTest::ten, Due.BAD, "lift", 0, 4, -1, n);
        }
        Edge.still(Starts::bare, Due.BAD, "lift", 0, 0, 0, 1);
        for (int wall = 0; wall <= 1; wall++) Edge.due(ten(), 0, "lift", wall, 0, 0, 1);
        for (int n : new int[] {1, 8}) Edge.due(ten(), 0, "lift", 0, 0, 0, n);
    }

    private static void liftFull() {
        Edge.promise(9, "FULL: 9 SPOTS");
        PaperedOver eight = nine();
        eight.forget();
        Edge.due(eight, 8, "lift", 0, 0, 0, 1);
        Edge.still(EdgeSpotsTest::nine, Due.FULL, "lift", 0, 0, 0, 1);
        Edge.still(EdgeSpotsTest::nine, Due.FULL, "lift", 0, 5, 0, 1);
        Edge.still(EdgeSpotsTest::nine, Due.FULL, "lift", 0, 0, -1, 1);
        Edge.still(EdgeSpotsTest::nine, Due.FULL, "lift", 1, 0, 3, 8);
        Edge.still(Starts::full, Due.FULL, "lift", 2, 1, 0, 2);
    }

    private static void liftNull() {
        Edge.promise(9, "NULL");
        for (int row = 4; row <= 6; row++) {
            for (int i : new int[] {-1, 0, 40}) Edge.still(Starts::lifted, Due.NULL, "lift", 0, row, i, 1);
        }
        Edge.still(Starts::lifted, Due.PLACE, "lift", 0, 3, 0, 1);
    }

    private static void liftPlace() {
        Edge.promise(9, "PLACE");
        for (int i : new int[] {LEAST, -1, 10, 11, MOST}) Edge.still(EdgeSpotsTest::ten, Due.PLACE, "lift", 0, 0, i, 1);
        for (int i : new int[] {LEAST, -1, 3, 4, 10, MOST - 7, MOST}) Edge.still(EdgeSpotsTest::ten, Due.PLACE, "lift", 0, 0, i, 8);
        for (int i : new int[] {0, 9}) Edge.due(ten(), 0, "lift", 0, 0, i, 1);
        for (int i : new int[] {0, 2}) Edge.due(ten(), 0, "lift", 0, 0, i, 8);
        // ROW 1 has 3 and 0: it is its end that is found, not that a third item is no paper.
        Edge.still(Starts::lifted, Due.PLACE, "lift", 0, 1, 0, 3);
    }

    private static void liftBadItems() {
        Edge.promise(9, "then BAD: an ITEM that is no PAPER, or told twice.");
        for (int item : new int[] {LEAST, -1, 6, 7, 10, 32, 64, 256, MOST}) {
            for (int[] items : new int[][] {{item}, {0, item}, {item, 5}}) Edge.still(() -> with(items), Due.BAD, "lift", 0, 6, 0, items.length);
        }
        for (int[] items : new int[][] {{0, 0}, {5, 5}, {0, 5, 0}, {1, 2, 3, 4, 5, 0, 1}}) {
            Edge.still(() -> with(items), Due.BAD, "lift", 0, 6, 0, items.length);
        }
        for (int[] items : new int[][] {{0}, {5}, {0, 5}, {5, 4, 3, 2, 1, 0}}) {
            Edge.due(with(items), 4, "lift", 0, 6, 0, items.length);
        }
        // Only what is told counts: an item ahead of i or behind the last one may be anything.
        Edge.due(with(99, 5, 99), 4, "lift", 0, 6, 1, 1);
    }

    /** Six papers and four spots, and ROW 6 of ints; KIND was found last. */
    private static PaperedOver with(int... items) {
        PaperedOver x = Starts.lifted();
        Starts.fill(x, 6, 2, items);
        x.as(0, 5);
        return x;
    }

    private static void forgetLatest() {
        Edge.promise(10, "The latest SPOT is forgotten: how many are left.");
        PaperedOver x = nine();
        for (int left = 8; left >= 0; left--) {
            Edge.due(x, left, "forget");
            Edge.due(x, left, "count", 4);
            Edge.due(x, (1 << left) - 1, "papers", 0);
            Edge.due(x, Due.BAD, "spot", left, 0);
        }
        Edge.due(x, Due.STATE, "forget");
    }

    private static void forgetNone() {
        Edge.promise(10, "STATE: there is none.");
        Edge.still(PaperedOver::new, Due.STATE, "forget");
        Edge.still(Starts::bare, Due.STATE, "forget");
        Edge.still(EdgeSpotsTest::ten, Due.STATE, "forget");
        PaperedOver x = ten();
        Due.lift(x, 0, 0);
        Edge.due(x, 0, "forget");
        Edge.due(x, Due.STATE, "forget");
    }

    private static void spotLayers() {
        Edge.promise(11, "PAPER k of a SPOT, from the wall on; its WALL (k = -1)");
        PaperedOver x = chain();
        Edge.due(x, 0, "spot", 0, -1);
        Edge.due(x, 1, "spot", 1, -1);
        for (int k = 0; k < 8; k++) Edge.due(x, k, "spot", 0, k);
        for (int k = 0; k < 3; k++) Edge.due(x, 7 + k, "spot", 1, k);
        Edge.still(EdgeSpotsTest::chain, 1, "spot", 1, -1);
    }

    private static void spotNone() {
        Edge.promise(11, "NONE: not so many.");
        for (int k : new int[] {8, 9, MOST}) Edge.still(EdgeSpotsTest::chain, Due.NONE, "spot", 0, k);
        for (int k : new int[] {3, 7, 8, MOST}) Edge.still(EdgeSpotsTest::chain, Due.NONE, "spot", 1, k);
        for (int k : new int[] {1, 8}) Edge.still(EdgeSpotsTest::nine, Due.NONE, "spot", 8, k);
        Edge.due(chain(), 7, "spot", 0, 7);
        Edge.due(chain(), 9, "spot", 1, 2);
    }

    private static void spotBad() {
        Edge.promise(11, "BAD: k below -1, too.");
        for (int k : new int[] {LEAST, -3, -2}) Edge.still(EdgeSpotsTest::chain, Due.BAD, "spot", 0, k);
        for (int spot : new int[] {LEAST, -1, 2, 3, 8, 9, MOST}) {
            for (int k : new int[] {-2, -1, 0, 9}) Edge.still(EdgeSpotsTest::chain, Due.BAD, "spot", spot, k);
        }
        Edge.still(EdgeSpotsTest::nine, Due.BAD, "spot", 9, -1);
        Edge.still(EdgeSpotsTest::nine, 0, "spot", 8, -1);
        Edge.still(EdgeSpotsTest::ten, Due.BAD, "spot", 0, -1);
        Edge.still(Starts::bare, Due.BAD, "spot", 0, -1);
    }

    private static void papersWhat() {
        Edge.promise(12, "PAPERS (bits): SEEN (what = 0), in a RING (1), SURE ahead of a PAPER (10 and that), ON a WALL (30 and that).");
        int[][] lifted = {{0, 31}, {1, 0}, {10, 0}, {11, 1}, {12, 11}, {13, 0}, {14, 0}, {15, 0}, {30, 15}, {31, 5}, {32, 16}};
        for (int[] due : lifted) Edge.still(Starts::lifted, due[1], "papers", due[0]);
        int[][] ringed = {{0, 31}, {1, 7}, {10, 15}, {11, 15}, {12, 15}, {13, 0}, {14, 0}, {15, 0}, {30, 15}, {31, 5}, {32, 21}};
        for (int[] due : ringed) Edge.still(Starts::ringed, due[1], "papers", due[0]);
        Supplier<PaperedOver> most = () -> Due.standing(Due.plain(8, 10));
        for (int what : new int[] {10, 19, 30, 37}) Edge.still(most, 0, "papers", what);
    }

    private static void papersBad() {
        Edge.promise(12, "BAD");
        Supplier<PaperedOver> most = () -> Due.standing(Due.plain(8, 10));
        for (int what : new int[] {LEAST, -1, 2, 9, 20, 29, 38, 39, MOST}) Edge.still(most, Due.BAD, "papers", what);
        for (int what : new int[] {-1, 2, 9, 16, 19, 29, 33, 37}) Edge.still(Starts::lifted, Due.BAD, "papers", what);
        Supplier<PaperedOver> least = () -> Due.standing("wall 1700 50 100;");
        for (int what : new int[] {2, 9, 10, 11, 29, 31}) Edge.still(least, Due.BAD, "papers", what);
        for (int what : new int[] {0, 1, 30}) Edge.still(least, 0, "papers", what);
    }

    private static void papersState() {
        Edge.promise(12, "STATE: no HOUSE (ahead of BAD).");
        for (int what : new int[] {LEAST, -1, 0, 1, 2, 10, 20, 30, 38, MOST}) {
            Edge.still(Starts::bare, Due.STATE, "papers", what);
            Edge.still(PaperedOver::new, Due.STATE, "papers", what);
        }
    }

    private static void paperWhat() {
        Edge.promise(13, "Of a PAPER: 0 MADE, 1 LAST, 2 PRICE, 3 REPEAT.");
        Supplier<PaperedOver> start = () -> Due.standing("wall 1700 50 100;paper stamp 1700 1999 0 99;paper rest 1999 1999 99 1;");
        int[][] told = {{1700, 1999, 0, 99}, {1999, 1999, 99, 1}};
        for (int p = 0; p <= 1; p++) {
            for (int what = 0; what <= 3; what++) Edge.still(start, told[p][what], "paper", p, what);
        }
    }

    private static void paperBad() {
        Edge.promise(13, "BAD.");
        for (int p : new int[] {LEAST, -1, 6, 7, 10, MOST}) Edge.still(Starts::lifted, Due.BAD, "paper", p, 0);
        for (int what : new int[] {LEAST, -1, 4, 5, MOST}) Edge.still(Starts::lifted, Due.BAD, "paper", 5, what);
        for (int what : new int[] {0, 3}) Edge.still(Starts::lifted, what == 0 ? 1900 : 99, "paper", 5, what);
        Edge.still(EdgeSpotsTest::ten, Due.BAD, "paper", 10, 0);
        Edge.still(EdgeSpotsTest::ten, 1700, "paper", 9, 0);
        Edge.still(Starts::bare, Due.BAD, "paper", 0, 0);
    }
}
