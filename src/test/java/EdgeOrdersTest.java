import java.util.function.Supplier;

/** Boundaries of promises 14 to 17 (orders, first, odds, next), and of what part 3 of the Terms says of these. */
public final class EdgeOrdersTest {
    private static final int LEAST = Integer.MIN_VALUE, MOST = Integer.MAX_VALUE;

    public static void main(String[] args) {
        oddsByAll();
        nextMostEvenly();
        nextOfSeveral();
        firstByNumbers();
        howMany();
        ordersState();
        firstPlace();
        firstBad();
        firstState();
        oddsWhat();
        oddsBad();
        oddsState();
        next();
        nextState();
        Due.end();
    }

    /** Ten papers, of which spots are lifted on one wall. */
    private static PaperedOver with(int[]... spots) {
        PaperedOver x = Due.standing(Due.plain(1, 10));
        for (int[] spot : spots) Due.lift(x, 0, spot);
        return x;
    }

    private static int[] s(int... papers) {
        return papers;
    }

    /** As many orders as there can be: eight papers stand alone, two more in a pair. */
    private static PaperedOver most() {
        return with(s(0), s(1), s(2), s(3), s(4), s(5), s(6), s(7), s(9, 8));
    }

    private static void fraction(PaperedOver x, int a, int b, int above, int below) {
        Edge.due(x, above, "odds", a, b, 0);
        Edge.due(x, below, "odds", a, b, 1);
    }

    private static void oddsByAll() {
        Edge.terms(3, 16, "ODDS of two: in how many ORDERS the one stands ahead of the other, by all: a fraction.");
        PaperedOver pair = with(s(9, 0));
        fraction(pair, 9, 0, 1, 1);
        fraction(pair, 0, 9, 0, 1);
        PaperedOver free = with(s(9), s(0));
        fraction(free, 9, 0, 1, 2);
        fraction(free, 0, 9, 1, 2);
        // One that stands free against a chain of eight: at each of nine places once.
        PaperedOver nine = with(s(1, 2, 3, 4, 5, 6, 7, 8), s(0));
        int[][] ahead = {{1, 9}, {2, 9}, {1, 3}, {4, 9}, {5, 9}, {2, 3}, {7, 9}, {8, 9}};
        for (int p = 1; p <= 8; p++) fraction(nine, 0, p, ahead[p - 1][0], ahead[p - 1][1]);
        oddsAfterChanges();
        fraction(most(), 9, 8, 1, 1);
        fraction(most(), 8, 9, 0, 1);
        fraction(most(), 0, 7, 1, 2);
        fraction(most(), 7, 8, 2, 3);
        fraction(most(), 7, 9, 1, 3);
    }

    /** What was counted before a spot came or went is counted anew. */
    private static void oddsAfterChanges() {
        PaperedOver x = with(s(0), s(1), s(2));
        fraction(x, 0, 2, 1, 2);
        Due.lift(x, 0, 1, 0);
        fraction(x, 0, 2, 1, 3);
        fraction(x, 0, 1, 0, 1);
        Due.lift(x, 0, 2, 1);
        fraction(x, 0, 2, 0, 1);
        fraction(x, 2, 1, 1, 1);
        x.forget();
        fraction(x, 0, 2, 1, 3);
        x.forget();
        fraction(x, 0, 1, 1, 2);
        x.forget();
        fraction(x, 0, 1, 1, 2);
    }

    private static void nextMostEvenly() {
        Edge.terms(3, 17, "NEXT: two SEEN PAPERS, neither SURE ahead of the other, by which ORDERS are parted most evenly (the greater of both parts is least)");
        // One against a chain: nearest to the chain's middle is most even.
        Edge.due(with(s(1, 2, 3), s(0)), 2, "next");
        Edge.due(with(s(3, 2, 1), s(0)), 2, "next");
        Edge.due(with(s(1, 2, 3, 4, 5, 6, 7), s(0)), 4, "next");
        Edge.due(with(s(1, 2, 3, 4, 5, 6, 7, 8), s(0)), 4, "next");
        Edge.due(with(s(8, 7, 6, 5, 4, 3, 2, 1), s(0)), 4, "next");
        Edge.due(with(s(0, 1, 2), s(9)), 19, "next");
        // Both ways are looked at: 0 stands ahead of 2 in 2 of 3, of 1 in 1 of 3.
        Edge.due(with(s(1, 2), s(0)), 1, "next");
        Edge.due(with(s(2, 1), s(0)), 1, "next");
    }

    private static void nextOfSeveral() {
        Edge.terms(3, 17, "of several the first (10 times the lesser number and the greater one); NONE.");
        Edge.due(with(s(1), s(0)), 1, "next");
        Edge.due(with(s(9), s(8)), 89, "next");
        Edge.due(with(s(9), s(8), s(0)), 8, "next");
        Edge.due(with(s(9), s(5), s(7)), 57, "next");
        Edge.due(with(s(9, 0), s(5), s(7)), 57, "next");
        Edge.due(most(), 1, "next");
        Edge.due(with(s(9, 0)), Due.NONE, "next");
    }

    private static void firstByNumbers() {
        Edge.terms(3, 15, "FIRST: the first ORDER by numbers: its PAPER at a place.");
        row(with(s(9), s(8), s(0)), 0, 8, 9);
        row(with(s(9, 0), s(8)), 8, 9, 0);
        row(with(s(1, 0), s(2)), 1, 0, 2);
        row(with(s(9, 8, 7, 6, 5, 4, 3, 2), s(2, 1, 0)), 9, 8, 7, 6, 5, 4, 3, 2, 1, 0);
        row(most(), 0, 1, 2, 3, 4, 5, 6, 7, 9, 8);
        // 0 is as far ahead as its chain lets it, though 9 comes early then.
        row(with(s(9, 0), s(1), s(2, 9)), 1, 2, 9, 0);
    }

    private static void row(PaperedOver x, int... want) {
        for (int i = 0; i < want.length; i++) Edge.due(x, want[i], "first", i);
        Edge.due(x, Due.NONE, "first", want.length);
    }

    private static void howMany() {
        Edge.promise(14, "How many ORDERS.");
        Edge.due(with(), 1, "orders");
        Edge.due(with(s(0)), 1, "orders");
        Edge.due(with(s(0), s(9)), 2, "orders");
        Edge.due(with(s(0), s(1), s(2), s(3), s(4), s(5), s(6), s(7), s(8)), 362880, "orders");
        Edge.due(most(), 1814400, "orders");
        Edge.due(with(s(0, 1, 2, 3, 4, 5, 6, 7), s(7, 8, 9)), 1, "orders");
        Edge.due(with(s(0, 1, 2, 3, 4, 5, 6, 7), s(8), s(9)), 90, "orders");
        Edge.due(with(s(0, 9), s(9, 0)), 0, "orders");
        Edge.still(EdgeOrdersTest::most, 1814400, "orders");
        Edge.still(Starts::ringed, 0, "orders");
    }

    private static void ordersState() {
        Edge.promise(14, "STATE: no HOUSE.");
        Edge.still(PaperedOver::new, Due.STATE, "orders");
        Edge.still(Starts::bare, Due.STATE, "orders");
        Edge.still(() -> Due.standing("wall 1700 50 100;"), 1, "orders");
    }

    private static void firstPlace() {
        Edge.promise(15, "FIRST: the PAPER at a place; NONE: not so many, there are no ORDERS.");
        Edge.still(Starts::lifted, 0, "first", 0);
        Edge.still(Starts::lifted, 4, "first", 4);
        for (int place : new int[] {5, 6, 10, MOST}) Edge.still(Starts::lifted, Due.NONE, "first", place);
        for (int place : new int[] {0, 1, 9, MOST}) Edge.still(Starts::ringed, Due.NONE, "first", place);
        Edge.due(most(), 8, "first", 9);
        Edge.due(most(), Due.NONE, "first", 10);
        Edge.due(with(), Due.NONE, "first", 0);
    }

    private static void firstBad() {
        Edge.promise(15, "BAD: place below 0");
        for (int place : new int[] {LEAST, -2, -1}) {
            Edge.still(Starts::lifted, Due.BAD, "first", place);
            Edge.still(Starts::ringed, Due.BAD, "first", place);
            Edge.still(() -> with(), Due.BAD, "first", place);
        }
        Edge.still(Starts::lifted, 0, "first", 0);
    }

    private static void firstState() {
        Edge.promise(15, "STATE: no HOUSE (ahead of BAD).");
        for (int place : new int[] {LEAST, -1, 0, 1, MOST}) {
            Edge.still(PaperedOver::new, Due.STATE, "first", place);
            Edge.still(Starts::bare, Due.STATE, "first", place);
        }
    }

    private static void oddsWhat() {
        Edge.promise(16, "ODDS that a stands ahead of b: above (what = 0), below (1).");
        Supplier<PaperedOver> start = () -> with(s(1, 2), s(0));
        Edge.still(start, 1, "odds", 0, 1, 0);
        Edge.still(start, 3, "odds", 0, 1, 1);
        Edge.still(start, 2, "odds", 0, 2, 0);
        Edge.still(start, 3, "odds", 0, 2, 1);
        Edge.still(start, 0, "odds", 2, 1, 0);
        Edge.still(start, 1, "odds", 2, 1, 1);
        Edge.still(start, 1, "odds", 1, 2, 0);
        Edge.still(start, 1, "odds", 1, 2, 1);
    }

    private static void oddsBad() {
        Edge.promise(16, "BAD: alike, not SEEN, too");
        for (int p : new int[] {LEAST, -1, 5, 6, 10, 32, MOST}) {
            Edge.still(Starts::lifted, Due.BAD, "odds", p, 0, 0);
            Edge.still(Starts::lifted, Due.BAD, "odds", 0, p, 0);
            Edge.still(Starts::ringed, Due.BAD, "odds", p, 0, 0);
            Edge.still(Starts::ringed, Due.BAD, "odds", 0, p, 0);
        }
        for (int p = 0; p <= 5; p++) Edge.still(Starts::lifted, Due.BAD, "odds", p, p, 0);
        for (int what : new int[] {LEAST, -1, 2, MOST}) {
            Edge.still(Starts::lifted, Due.BAD, "odds", 0, 4, what);
            Edge.still(Starts::ringed, Due.BAD, "odds", 0, 4, what);
        }
        Edge.still(Starts::lifted, 1, "odds", 0, 1, 0);
        Edge.still(Starts::lifted, 1, "odds", 3, 2, 1);
        Edge.still(Starts::bare, Due.BAD, "odds", 0, 1, 0);
        Edge.still(PaperedOver::new, Due.BAD, "odds", 0, 1, 0);
    }

    private static void oddsState() {
        Edge.promise(16, "STATE: there is a RING.");
        for (int what = 0; what <= 1; what++) {
            Edge.still(Starts::ringed, Due.STATE, "odds", 0, 1, what);
            Edge.still(Starts::ringed, Due.STATE, "odds", 3, 4, what);
        }
        PaperedOver x = Starts.ringed();
        x.forget();
        Edge.due(x, 1, "odds", 0, 1, 0);
    }

    private static void next() {
        Edge.promise(17, "NEXT; NONE.");
        Edge.still(() -> with(), Due.NONE, "next");
        Edge.still(() -> with(s(4)), Due.NONE, "next");
        Edge.still(() -> with(s(4, 3)), Due.NONE, "next");
        Edge.still(() -> with(s(4, 3), s(3, 9)), Due.NONE, "next");
        Edge.still(() -> with(s(0, 1, 2, 3, 4, 5, 6, 7), s(7, 8, 9)), Due.NONE, "next");
        Edge.still(() -> with(s(4), s(3)), 34, "next");
        Edge.still(() -> with(s(0, 1, 2, 3, 4, 5, 6, 7), s(8)), 38, "next");
    }

    private static void nextState() {
        Edge.promise(17, "STATE: no HOUSE, or a RING.");
        Edge.still(PaperedOver::new, Due.STATE, "next");
        Edge.still(Starts::bare, Due.STATE, "next");
        Edge.still(Starts::ringed, Due.STATE, "next");
        Edge.still(() -> with(s(0, 1), s(1, 0)), Due.STATE, "next");
        Edge.still(() -> with(s(0, 1), s(0, 1)), Due.NONE, "next");
    }
}
