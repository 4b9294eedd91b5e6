/** Boundaries of promises 28 to 33 (kind, as, ask, trace, count, status), of the KINDS, and of part 4 of the Terms. */
public final class EdgeKindsTest {
    private static final int LEAST = Integer.MIN_VALUE, MOST = Integer.MAX_VALUE;

    public static void main(String[] args) {
        kinds();
        traceOfBodies();
        sizeLent();
        sizeOfPlain();
        sizeOfRest();
        sizeOfDated();
        sizeOfNews();
        markLent();
        markOfPlain();
        markOfDated();
        markOfPaint();
        markOfRest();
        nearestKind();
        kind();
        kindBad();
        as();
        asBad();
        asKind();
        ask();
        askBad();
        traceStays();
        trace();
        count();
        countBad();
        status();
        statusOfNone();
        Due.end();
    }

    /** Ten papers of one sort, made in a year, of a price and a repeat. */
    private static PaperedOver of(String sort, int made, int price, int repeat) {
        return Due.standing("wall 1700 50 100;" + ("paper " + sort + " " + made + " 1999 " + price + " " + repeat + ";").repeat(10));
    }

    /** An ask, and the bodies that it leaves: no more than these. */
    private static void asked(PaperedOver x, int paper, int what, int answer, int... bodies) {
        Edge.due(x, answer, "ask", paper, what);
        for (int i = 0; i < bodies.length; i++) Edge.due(x, bodies[i], "trace", i);
        Edge.due(x, Due.NONE, "trace", bodies.length);
    }

    private static void kinds() {
        Edge.terms(3, 29, "KINDS of PAPERS: 0 PAPER; 1 PLAIN, a PAPER; 2 DATED, a PAPER: a stamp; 3 NEWS, a DATED one; 4 REST, a PLAIN one; 5 PAINT, a PAPER.");
        String[] sorts = {"", "plain", "stamp", "news", "rest", "paint"};
        String[] is = {"", "110000", "101000", "101100", "110010", "100001"};
        for (int told = 1; told <= 5; told++) {
            PaperedOver x = of(sorts[told], 1700, 0, 1);
            for (int p : new int[] {0, 9}) {
                Edge.due(x, told, "kind", p);
                for (int kind = 0; kind <= 5; kind++) Edge.due(x, is[told].charAt(kind) == '1' ? p : Due.KIND, "as", p, kind);
            }
        }
        byThisItIsAsked();
    }

    private static void byThisItIsAsked() {
        Edge.terms(3, 30, "By this it is asked.");
        String[] sorts = {"plain", "stamp", "news", "rest", "paint"};
        int[][] begins = {{11, 21}, {13, 22}, {14, 22}, {12, 24}, {10, 23}};
        for (int k = 0; k < 5; k++) {
            PaperedOver x = of(sorts[k], 1700, 0, 1);
            for (int what = 0; what <= 1; what++) {
                x.ask(0, what);
                Edge.due(x, begins[k][what], "trace", 0);
            }
        }
    }

    private static void traceOfBodies() {
        Edge.terms(4, 31, "ASKS of PAPERS, by BODIES, each of which leaves its number in THE TRACE as it begins (the first 16)");
        // No ask has more than six bodies: room for sixteen is never used up, and nothing stands behind the last.
        PaperedOver x = of("rest", 1700, 0, 1);
        asked(x, 0, 0, 999, 12, 11, 10, 24, 21, 20);
        for (int i : new int[] {-1, 6, 7, 15, 16, 17}) Edge.due(x, Due.NONE, "trace", i);
        for (int again = 0; again < 4; again++) asked(x, 9, 0, 990, 12, 11, 10, 24, 21, 20);
        asked(x, 0, 1, -1000, 24, 21, 20);
        asked(of("paint", 1700, 0, 1), 0, 0, 1, 10);
    }

    private static void sizeLent() {
        Edge.terms(4, 30, "0 SIZE: 10 lent to all PAPERS: REPEAT.");
        for (int repeat : new int[] {1, 2, 98, 99}) asked(of("paint", 1999, 99, repeat), 9, 0, repeat, 10);
    }

    private static void sizeOfPlain() {
        Edge.terms(4, 30, "11 of PLAIN ones: what 10 gives, and MARK.");
        asked(of("plain", 1999, 0, 1), 0, 0, 1, 11, 10, 21, 20);
        asked(of("plain", 1999, 99, 1), 0, 0, 100, 11, 10, 21, 20);
        asked(of("plain", 1700, 99, 99), 9, 0, 207, 11, 10, 21, 20);
    }

    private static void sizeOfRest() {
        Edge.terms(4, 30, "12 of REST ones: 0 less what 11 gives.");
        asked(of("rest", 1999, 0, 1), 0, 0, 999, 12, 11, 10, 24, 21, 20);
        asked(of("rest", 1700, 99, 99), 9, 0, 793, 12, 11, 10, 24, 21, 20);
    }

    private static void sizeOfDated() {
        Edge.terms(4, 30, "13 of DATED ones: what 10 gives, less PRICE.");
        asked(of("stamp", 1700, 0, 1), 0, 0, 1, 13, 10);
        asked(of("stamp", 1700, 1, 1), 0, 0, 0, 13, 10);
        asked(of("stamp", 1999, 99, 1), 9, 0, -98, 13, 10);
        asked(of("stamp", 1999, 0, 99), 9, 0, 99, 13, 10);
    }

    private static void sizeOfNews() {
        Edge.terms(4, 30, "14 of NEWS: twice what 13 gives (asked once).");
        asked(of("news", 1700, 0, 1), 0, 0, 2, 14, 13, 10);
        asked(of("news", 1700, 1, 1), 0, 0, 0, 14, 13, 10);
        asked(of("news", 1999, 99, 1), 9, 0, -196, 14, 13, 10);
        asked(of("news", 1999, 0, 99), 9, 0, 198, 14, 13, 10);
    }

    private static void markLent() {
        Edge.terms(4, 30, "1 MARK: 20 lent to all PAPERS: its number.");
        PaperedOver x = of("plain", 1700, 0, 1);
        for (int p = 0; p <= 9; p++) asked(x, p, 1, p, 21, 20);
    }

    private static void markOfPlain() {
        Edge.terms(4, 30, "21 of PLAIN ones: what 20 gives, and PRICE.");
        for (int price : new int[] {0, 1, 98, 99}) {
            asked(of("plain", 1999, price, 99), 0, 1, price, 21, 20);
            asked(of("plain", 1999, price, 99), 9, 1, price + 9, 21, 20);
        }
    }

    private static void markOfDated() {
        Edge.terms(4, 30, "22 of DATED ones: what 20 gives, and MADE.");
        for (int made : new int[] {1700, 1999}) {
            for (String sort : new String[] {"stamp", "news"}) {
                asked(of(sort, made, 99, 99), 0, 1, made, 22, 20);
                asked(of(sort, made, 99, 99), 9, 1, made + 9, 22, 20);
            }
        }
    }

    private static void markOfPaint() {
        Edge.terms(4, 30, "23 of PAINT: what 20 gives, less SIZE.");
        for (int repeat : new int[] {1, 9, 10, 99}) {
            asked(of("paint", 1999, 99, repeat), 0, 1, -repeat, 23, 20, 10);
            asked(of("paint", 1999, 99, repeat), 9, 1, 9 - repeat, 23, 20, 10);
        }
    }

    private static void markOfRest() {
        Edge.terms(4, 30, "24 of REST ones: what 21 gives, less 1000.");
        for (int price : new int[] {0, 99}) {
            asked(of("rest", 1999, price, 99), 0, 1, price - 1000, 24, 21, 20);
            asked(of("rest", 1999, price, 99), 9, 1, price - 991, 24, 21, 20);
        }
    }

    private static void nearestKind() {
        Edge.terms(4, 30, "(Of an ask the BODY told for the KIND begins, else that of the nearest KIND that it is, too, else the one that is lent");
        asked(of("rest", 1700, 5, 7), 1, 0, 987, 12, 11, 10, 24, 21, 20);
        asked(of("news", 1700, 5, 7), 1, 1, 1701, 22, 20);
        asked(of("paint", 1700, 5, 7), 1, 0, 7, 10);
        askedAnew();
    }

    private static void askedAnew() {
        Edge.terms(4, 30, "SIZE, MARK within others are asked of the same PAPER anew.)");
        // MARK within 11 begins anew with 24 if it is a REST, with 21 if it is but PLAIN; SIZE within 23 with 10.
        asked(of("rest", 1700, 0, 50), 3, 0, 947, 12, 11, 10, 24, 21, 20);
        asked(of("plain", 1700, 0, 50), 3, 0, 53, 11, 10, 21, 20);
        asked(of("paint", 1700, 0, 50), 3, 1, -47, 23, 20, 10);
    }

    private static void kind() {
        Edge.promise(28, "The KIND of a PAPER, as told (1 to 5).");
        int[] told = {1, 2, 3, 4, 5, 1};
        for (int p = 0; p <= 5; p++) Edge.still(Starts::lifted, told[p], "kind", p);
    }

    private static void kindBad() {
        Edge.promise(28, "BAD.");
        for (int p : new int[] {LEAST, -1, 6, 9, 10, MOST}) Edge.still(Starts::lifted, Due.BAD, "kind", p);
        for (int p : new int[] {-1, 0}) Edge.still(Starts::bare, Due.BAD, "kind", p);
        Edge.due(of("paint", 1700, 0, 1), 5, "kind", 9);
        Edge.due(of("paint", 1700, 0, 1), Due.BAD, "kind", 10);
    }

    private static void as() {
        Edge.promise(29, "A PAPER is taken as one of a KIND (0 .. 5): the PAPER's number.");
        for (int p = 0; p <= 5; p++) {
            PaperedOver x = Starts.lifted();
            Edge.due(x, p, "as", p, 0);
            Edge.due(x, 0, "status");
        }
        Edge.due(Starts.lifted(), 4, "as", 4, 5);
        PaperedOver x = Starts.lifted();
        PaperedOver twin = Starts.lifted();
        Edge.due(x, 3, "as", 3, 1);
        Edge.alike("as(3, 1)", x, twin, 0);
    }

    private static void asBad() {
        Edge.promise(29, "BAD");
        for (int p : new int[] {LEAST, -1, 6, 10, MOST}) {
            for (int kind : new int[] {-1, 0, 5, 6}) Edge.still(Starts::missed, Due.BAD, "as", p, kind);
        }
        for (int kind : new int[] {LEAST, -1, 6, 7, MOST}) Edge.still(Starts::missed, Due.BAD, "as", 5, kind);
        Edge.still(Starts::bare, Due.BAD, "as", 0, 0);
    }

    private static void asKind() {
        Edge.promise(29, "KIND: it is no such one.");
        int[][] not = {{0, 2}, {0, 3}, {0, 4}, {0, 5}, {1, 1}, {1, 3}, {2, 1}, {2, 4}, {3, 2}, {3, 5}, {4, 1}, {4, 4}, {5, 5}};
        for (int[] pair : not) Edge.still(Starts::missed, Due.KIND, "as", pair[0], pair[1]);
    }

    private static void ask() {
        Edge.promise(30, "An ASK (0, 1) of a PAPER.");
        // Repeats 50, 7, 30, 12, 1, 99; prices 5, 9, 1, 20, 2, 40.
        int[][] answers = {{55, 5}, {-2, 1841}, {58, 1862}, {965, -977}, {1, 3}, {144, 45}};
        for (int p = 0; p <= 5; p++) {
            for (int what = 0; what <= 1; what++) Edge.due(Starts.lifted(), answers[p][what], "ask", p, what);
        }
        // Of the same paper the same is asked again: not even the trace changes.
        Edge.still(Starts::lifted, 965, "ask", 3, 0);
    }

    private static void askBad() {
        Edge.promise(30, "BAD.");
        for (int p : new int[] {LEAST, -1, 6, 10, MOST}) Edge.still(Starts::lifted, Due.BAD, "ask", p, 0);
        for (int what : new int[] {LEAST, -1, 2, 3, MOST}) Edge.still(Starts::lifted, Due.BAD, "ask", 5, what);
        Edge.still(Starts::bare, Due.BAD, "ask", 0, 0);
        Edge.still(PaperedOver::new, Due.BAD, "ask", 0, 1);
    }

    private static void traceStays() {
        Edge.promise(30, "THE TRACE is empty ahead of it (where that is refused it stays).");
        PaperedOver x = Starts.lifted();
        int[] six = {12, 11, 10, 24, 21, 20};
        for (int i = 0; i < 6; i++) Edge.due(x, six[i], "trace", i);
        Edge.due(x, Due.BAD, "ask", 6, 0);
        Edge.due(x, Due.BAD, "ask", 0, 2);
        for (int i = 0; i < 6; i++) Edge.due(x, six[i], "trace", i);
        asked(x, 4, 0, 1, 10);
        for (int i = 1; i < 6; i++) Edge.due(x, Due.NONE, "trace", i);
    }

    private static void trace() {
        Edge.promise(31, "Number i of THE TRACE; NONE.");
        Edge.still(Starts::lifted, 12, "trace", 0);
        Edge.still(Starts::lifted, 20, "trace", 5);
        for (int i : new int[] {LEAST, -1, 6, 15, 16, 17, MOST}) Edge.still(Starts::lifted, Due.NONE, "trace", i);
        for (int i : new int[] {-1, 0, 15, 16}) Edge.still(PaperedOver::new, Due.NONE, "trace", i);
    }

    private static void count() {
        Edge.promise(32, "How many: 0 ROWS, 1 WALLS, 2 PAPERS, 3 TENANTS, 4 SPOTS, 5 bytes on the tape.");
        for (int what = 0; what <= 5; what++) Edge.still(PaperedOver::new, 0, "count", what);
        int[] lifted = {5, 3, 6, 2, 4, 42};
        for (int what = 0; what <= 5; what++) Edge.still(Starts::lifted, lifted[what], "count", what);
        PaperedOver x = Due.standing(Due.plain(8, 10));
        for (int s = 0; s < 9; s++) Due.lift(x, 0, s);
        for (int row = 0; row <= 7; row++) x.row(row, 0, 0);
        for (int i = 0; i < 62; i++) x.feed(0, 8);
        Edge.due(x, 500, "feed", 0, 4);
        int[] most = {8, 8, 10, 0, 9, 500};
        for (int what = 0; what <= 5; what++) Edge.due(x, most[what], "count", what);
        Edge.due(Due.standing("wall 1700 50 100;" + "tenant 1700 1700 0;".repeat(10)), 10, "count", 3);
    }

    private static void countBad() {
        Edge.promise(32, "BAD.");
        for (int what : new int[] {LEAST, -1, 6, 7, MOST}) {
            Edge.still(Starts::lifted, Due.BAD, "count", what);
            Edge.still(PaperedOver::new, Due.BAD, "count", what);
        }
    }

    private static void status() {
        Edge.promise(33, "Of the latest call with a ROW, or as(), that was not BAD, STATE, FULL: the number of its FINDING");
        String[][] finds = {
            {"set 4 0 0", "copy 4 0 0 0 1", "copy 0 0 4 0 1", "drop 4", "lift 0 4 0 1"},
            {"set 0 -1 0", "set 0 3 0", "set 3 0 0", "copy 0 3 0 0 1", "copy 0 0 0 0 -1", "lift 0 0 3 1", "lift 0 0 -1 1"},
            {"as 0 2", "as 4 1"},
            {"row 0 0 -1", "row 4 2 -1"},
            {"copy 0 0 1 0 1", "copy 2 0 1 0 0"}};
        for (int number = 1; number <= 5; number++) {
            for (String find : finds[number - 1]) {
                PaperedOver x = number == 3 ? Starts.missed() : Starts.lifted();
                Edge.is(find, Calls.told(x, find), -1000010 - number);
                Edge.is("status() behind " + find, x.status(), number);
                leftAlone(x, number);
            }
        }
        full(Starts.full(), "lift 0 0 0 1");
        full(Starts.brim(), "feed 0 1");
    }

    /** Calls that are refused leave it, and so do all that have no ROW; the house on the tape has but PAPER 0. */
    private static void leftAlone(PaperedOver x, int number) {
        String[] calls = {"row 8 0 1", "row 0 3 1", "row 0 0 41", "set -1 0 0", "copy 0 0 8 0 1", "copy 8 0 0 0 1", "drop 8",
            "lift 3 0 0 1", "lift 0 8 0 1", "lift 0 0 0 9", "as 0 6", "as 6 0", "feed 0 9", "feed 32 1", "fault",
            "spot 0 0", "papers 0", "paper 9 0", "orders", "first -1", "odds 0 0 0", "next", "years 0 0", "younger 0 1", "lacks 0 0",
            "tenants 0", "cupboard 0 0", "scrap 0 0", "tells 0", "rolls 0 1 0", "restore 1", "image 1", "restore 1", "kind 0",
            "ask 0 0", "trace 0", "count 0", "forget", "house", "lift 0 0 0 1",
            "lift 0 1 0 2", "house", "forget", "status"};
        for (String call : calls) {
            Calls.told(x, call);
            Edge.is("status() behind " + call, x.status(), number);
        }
    }

    private static void full(PaperedOver x, String call) {
        Edge.due(x, Due.NULL, "drop", 4);
        Edge.is(call, Calls.told(x, call), Due.FULL);
        Edge.due(x, 1, "status");
    }

    private static void statusOfNone() {
        Edge.promise(33, "0: it had none, or there was none.");
        Edge.still(PaperedOver::new, 0, "status");
        String[] clean = {"row 4 0 0", "row 0 0 40", "set 0 0 0", "set 0 2 -1", "copy 0 0 0 0 0", "copy 0 3 3 0 0", "copy 0 0 0 0 3",
            "drop 3", "drop 0", "lift 0 0 0 1", "lift 2 0 0 3", "as 0 0", "as 0 1", "as 4 5"};
        for (String call : clean) {
            PaperedOver x = Starts.lifted();
            Edge.due(x, 3, "status");
            Edge.is(call + " is not refused", Calls.told(x, call) >= 0 || call.startsWith("set") ? 1 : 0, 1);
            Edge.is("status() behind " + call, x.status(), 0);
        }
    }
}
