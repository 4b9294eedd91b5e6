import java.util.function.Supplier;

/** Boundaries of promises 2 to 5 (row, set, copy, drop), and of the ROWS in part 1 of the Terms. */
public final class EdgeRowsTest {
    private static final int LEAST = Integer.MIN_VALUE, MOST = Integer.MAX_VALUE;

    public static void main(String[] args) {
        missingAtFirst();
        lanes();
        sizes();
        noughtAtFirst();
        rowInPlace();
        rowBad();
        rowSize();
        setLowestBits();
        setBad();
        setNull();
        setPlace();
        copyAsTheyWere();
        copyBad();
        copyNull();
        copyStore();
        copyPlace();
        dropHad();
        dropBad();
        dropNull();
        Due.end();
    }

    /** Ten papers, so that an item can be looked at by lifting it. */
    private static PaperedOver ten() {
        return Due.standing(Due.plain(1, 10));
    }

    private static void item(PaperedOver x, int row, int i, int want) {
        Edge.due(x, 0, "lift", 0, row, i, 1);
        Edge.due(x, want, "spot", 0, 0);
        Edge.due(x, 0, "forget");
    }

    /** A bytes ROW whose items are the figures of their places. */
    private static void figures(PaperedOver x, int row, int n) {
        x.row(row, 0, n);
        for (int i = 0; i < n; i++) x.set(row, i, i % 10);
    }

    private static void missingAtFirst() {
        Edge.terms(1, 5, "ROWS 0 .. 7 are missing (at first)");
        for (int row : new int[] {-1, 8}) Edge.still(PaperedOver::new, Due.BAD, "drop", row);
        for (int row = 0; row <= 7; row++) {
            Edge.still(PaperedOver::new, Due.NULL, "drop", row);
            Edge.still(PaperedOver::new, Due.NULL, "set", row, 0, 0);
            Edge.still(EdgeRowsTest::ten, Due.NULL, "lift", 0, row, 0, 1);
        }
        PaperedOver x = new PaperedOver();
        for (int row = 0; row <= 7; row++) {
            Edge.due(x, row, "count", 0);
            Edge.due(x, 0, "row", row, 0, 0);
        }
        Edge.due(x, 8, "count", 0);
    }

    private static void lanes() {
        Edge.terms(1, 2, "or have a LANE (0 bytes, 1 shorts, 2 ints)");
        for (int lane : new int[] {LEAST, -1, 3, MOST}) Edge.still(Starts::lifted, Due.BAD, "row", 0, lane, 1);
        PaperedOver x = new PaperedOver();
        int[][] kept = {{0x78, -1, 0}, {0x5678, -1, 0}, {0x12345678, 0x1ffff, 1 << 16}};
        for (int lane = 0; lane <= 2; lane++) {
            Edge.due(x, 1, "row", lane, lane, 1);
            Edge.due(x, kept[lane][0], "set", lane, 0, 0x12345678);
            Edge.due(x, kept[lane][1], "set", lane, 0, 0x1ffff);
            Edge.due(x, kept[lane][2], "set", lane, 0, 1 << 16);
        }
    }

    private static void sizes() {
        Edge.terms(1, 2, "and 0 to 40 ITEMS");
        Edge.still(Starts::lifted, Due.SIZE, "row", 0, 1, -1);
        Edge.still(Starts::lifted, Due.BAD, "row", 0, 1, 41);
        PaperedOver x = new PaperedOver();
        for (int n : new int[] {0, 1, 39, 40}) {
            Edge.due(x, n, "row", 7, 2, n);
            Edge.due(x, Due.PLACE, "set", 7, -1, 5);
            if (n > 0) Edge.due(x, 5, "set", 7, 0, 5);
            if (n > 0) Edge.due(x, 6, "set", 7, n - 1, 6);
            Edge.due(x, Due.PLACE, "set", 7, n, 5);
            Edge.due(x, n, "drop", 7);
        }
    }

    private static void noughtAtFirst() {
        Edge.terms(1, 2, "ITEMS, 0 at first");
        PaperedOver x = ten();
        Edge.due(x, 40, "row", 7, 0, 40);
        for (int i : new int[] {0, 1, 38, 39}) item(x, 7, i, 0);
        figures(x, 7, 40);
        Edge.due(x, 40, "drop", 7);
        Edge.due(x, 40, "row", 7, 0, 40);
        for (int i = 0; i < 40; i++) item(x, 7, i, 0);
    }

    private static void rowInPlace() {
        Edge.promise(2, "A ROW of a LANE with n ITEMS, in place of what is there: n.");
        PaperedOver x = ten();
        figures(x, 6, 40);
        figures(x, 7, 40);
        Edge.due(x, 39, "row", 7, 0, 39);
        item(x, 7, 38, 0);
        Edge.due(x, Due.PLACE, "set", 7, 39, 1);
        Edge.due(x, 40, "row", 7, 0, 40);
        item(x, 7, 0, 0);
        item(x, 7, 39, 0);
        item(x, 6, 39, 9);
        Edge.due(x, 0, "row", 7, 2, 0);
        Edge.due(x, Due.PLACE, "set", 7, 0, 1);
        Edge.due(x, 1, "row", 7, 2, 1);
        Edge.due(x, 128, "set", 7, 0, 128);
        Edge.due(x, 2, "count", 0);
    }

    private static void rowBad() {
        Edge.promise(2, "BAD: ROW, LANE, n above 40");
        for (int row : new int[] {LEAST, -1, 8, MOST}) Edge.still(Starts::lifted, Due.BAD, "row", row, 0, 1);
        for (int lane : new int[] {LEAST, -1, 3, MOST}) Edge.still(Starts::lifted, Due.BAD, "row", 4, lane, 1);
        for (int n : new int[] {41, 42, MOST}) Edge.still(Starts::lifted, Due.BAD, "row", 4, 0, n);
        for (int n : new int[] {41, -1}) Edge.still(Starts::lifted, Due.BAD, "row", 8, 0, n);
        PaperedOver x = Starts.lifted();
        for (int row : new int[] {0, 7}) Edge.due(x, 1, "row", row, 0, 1);
        for (int lane : new int[] {0, 2}) Edge.due(x, 1, "row", 4, lane, 1);
        for (int n : new int[] {39, 40}) Edge.due(x, n, "row", 4, 0, n);
    }

    private static void rowSize() {
        Edge.promise(2, "SIZE");
        for (int n : new int[] {LEAST, -2, -1}) Edge.still(Starts::lifted, Due.SIZE, "row", 0, 0, n);
        Edge.still(Starts::lifted, Due.SIZE, "row", 4, 2, -1);
        PaperedOver x = Starts.lifted();
        for (int n : new int[] {0, 1}) Edge.due(x, n, "row", 0, 0, n);
        Edge.due(x, 0, "status");
    }

    private static void setLowestBits() {
        Edge.promise(3, "ITEM i becomes v, its lowest bits, as many as the LANE has (read with their sign): what it is then.");
        int[][][] kept = {
            {{126, 126}, {127, 127}, {128, -128}, {129, -127}, {255, -1}, {256, 0}, {257, 1}, {-128, -128}, {-129, 127},
                {MOST, -1}, {LEAST, 0}},
            {{32766, 32766}, {32767, 32767}, {32768, -32768}, {32769, -32767}, {65535, -1}, {65536, 0}, {65537, 1},
                {-32768, -32768}, {-32769, 32767}, {MOST, -1}, {LEAST, 0}},
            {{MOST - 1, MOST - 1}, {MOST, MOST}, {LEAST, LEAST}, {LEAST + 1, LEAST + 1}, {65536, 65536}, {-1, -1}, {0, 0}}};
        for (int lane = 0; lane <= 2; lane++) {
            PaperedOver x = new PaperedOver();
            x.row(1, lane, 2);
            for (int[] pair : kept[lane]) Edge.due(x, pair[1], "set", 1, 1, pair[0]);
        }
        PaperedOver x = ten();
        figures(x, 1, 3);
        Edge.due(x, 9, "set", 1, 1, 256 + 9);
        item(x, 1, 0, 0);
        item(x, 1, 1, 9);
        item(x, 1, 2, 2);
    }

    private static void setBad() {
        Edge.promise(3, "BAD: ROW");
        for (int row : new int[] {LEAST, -1, 8, MOST}) {
            Edge.still(Starts::lifted, Due.BAD, "set", row, 0, 1);
            Edge.still(Starts::lifted, Due.BAD, "set", row, -1, 1);
        }
        PaperedOver x = Starts.lifted();
        for (int row : new int[] {0, 7}) Edge.due(x, 9, "set", row, 0, 9);
    }

    private static void setNull() {
        Edge.promise(3, "NULL");
        for (int row = 4; row <= 6; row++) {
            for (int i : new int[] {-1, 0, 40}) Edge.still(Starts::lifted, Due.NULL, "set", row, i, 1);
        }
        Edge.still(Starts::lifted, Due.PLACE, "set", 3, 0, 1);
    }

    private static void setPlace() {
        Edge.promise(3, "PLACE");
        for (int i : new int[] {LEAST, -1, 3, 4, 40, MOST}) Edge.still(Starts::lifted, Due.PLACE, "set", 0, i, 9);
        for (int i : new int[] {-1, 0}) Edge.still(Starts::lifted, Due.PLACE, "set", 3, i, 9);
        PaperedOver x = Starts.lifted();
        for (int i : new int[] {0, 2}) Edge.due(x, 9, "set", 0, i, 9);
        Edge.due(x, 0, "status");
    }

    private static void copyAsTheyWere() {
        Edge.promise(4, "n ITEMS of a from i on come to b from j on, as they were ahead: n.");
        PaperedOver x = ten();
        figures(x, 0, 40);
        Edge.due(x, 39, "copy", 0, 0, 0, 1, 39);
        for (int i = 0; i < 40; i++) item(x, 0, i, Math.max(0, i - 1) % 10);
        PaperedOver y = ten();
        figures(y, 0, 40);
        Edge.due(y, 39, "copy", 0, 1, 0, 0, 39);
        for (int i = 0; i < 40; i++) item(y, 0, i, Math.min(39, i + 1) % 10);
        copyFewOrAll();
    }

    private static void copyFewOrAll() {
        PaperedOver x = ten();
        figures(x, 0, 10);
        figures(x, 1, 3);
        Edge.due(x, 0, "copy", 0, 0, 1, 0, 0);
        Edge.due(x, 0, "copy", 0, 10, 1, 3, 0);
        for (int i = 0; i < 3; i++) item(x, 1, i, i);
        Edge.due(x, 1, "copy", 0, 9, 1, 2, 1);
        for (int i = 0; i < 3; i++) item(x, 1, i, i == 2 ? 9 : i);
        Edge.due(x, 3, "copy", 0, 7, 1, 0, 3);
        for (int i = 0; i < 3; i++) item(x, 1, i, i + 7);
        Edge.due(x, 10, "copy", 0, 0, 0, 0, 10);
        for (int i = 0; i < 10; i++) item(x, 0, i, i);
    }

    private static void copyBad() {
        Edge.promise(4, "BAD: ROWS");
        for (int row : new int[] {LEAST, -1, 8, MOST}) {
            Edge.still(Starts::lifted, Due.BAD, "copy", row, 0, 0, 0, 1);
            Edge.still(Starts::lifted, Due.BAD, "copy", 0, 0, row, 0, 1);
            Edge.still(Starts::lifted, Due.BAD, "copy", 4, 0, row, 0, 1);
            Edge.still(Starts::lifted, Due.BAD, "copy", row, -1, 4, 0, 1);
        }
        PaperedOver x = Starts.lifted();
        Edge.due(x, 1, "copy", 0, 0, 0, 0, 1);
        Edge.due(x, 1, "copy", 7, 0, 7, 0, 1);
    }

    private static void copyNull() {
        Edge.promise(4, "NULL");
        for (int i : new int[] {-1, 0, MOST}) {
            Edge.still(Starts::lifted, Due.NULL, "copy", 4, i, 0, 0, 1);
            Edge.still(Starts::lifted, Due.NULL, "copy", 1, i, 4, 0, 1);
            Edge.still(Starts::lifted, Due.NULL, "copy", 4, i, 4, 0, 0);
        }
        Edge.due(Starts.lifted(), 0, "copy", 3, 0, 0, 0, 0);
    }

    private static void copyStore() {
        Edge.promise(4, "STORE");
        int[][] unlike = {{0, 1}, {1, 0}, {0, 2}, {2, 0}, {1, 2}, {2, 1}};
        for (int[] pair : unlike) {
            for (int n : new int[] {-1, 0, 1, 41}) Edge.still(Starts::lifted, Due.STORE, "copy", pair[0], 0, pair[1], 0, n);
        }
        PaperedOver x = Starts.lifted();
        for (int row = 0; row <= 2; row++) Edge.due(x, 1, "copy", row, 0, row, 0, 1);
        Edge.due(x, 1, "copy", 2, 0, 7, 0, 1);
    }

    private static void copyPlace() {
        Edge.promise(4, "PLACE (i, j, n below 0, or beyond an end)");
        // ROW 0 has three items, ROW 5 gets five of the same lane.
        Supplier<PaperedOver> start = () -> {
            PaperedOver x = Starts.lifted();
            Starts.fill(x, 5, 0, 5, 4, 3, 2, 1);
            return x;
        };
        int[][] places = {{-1, 0, 1}, {0, -1, 1}, {0, 0, -1}, {LEAST, 0, 1}, {0, LEAST, 1}, {0, 0, LEAST},
            {1, 0, 3}, {0, 3, 3}, {0, 0, 4}, {3, 0, 1}, {0, 5, 1}, {4, 0, 0}, {0, 6, 0},
            {MOST, 0, 1}, {0, MOST, 1}, {1, 1, MOST}, {MOST, MOST, MOST}, {LEAST, LEAST, LEAST}, {LEAST, 0, MOST}};
        for (int[] p : places) Edge.still(start, Due.PLACE, "copy", 0, p[0], 5, p[1], p[2]);
        int[][] fit = {{0, 0, 3}, {0, 2, 3}, {1, 0, 2}, {2, 4, 1}, {3, 5, 0}};
        for (int[] p : fit) Edge.due(start.get(), p[2], "copy", 0, p[0], 5, p[1], p[2]);
    }

    private static void dropHad() {
        Edge.promise(5, "A ROW is missing from now on: how many ITEMS it had.");
        for (int n : new int[] {0, 1, 39, 40}) {
            PaperedOver x = new PaperedOver();
            x.row(7, 1, n);
            Edge.due(x, n, "drop", 7);
            Edge.due(x, 0, "count", 0);
            Edge.due(x, Due.NULL, "set", 7, 0, 0);
            Edge.due(x, Due.NULL, "copy", 7, 0, 7, 0, 0);
            Edge.due(x, Due.NULL, "drop", 7);
        }
    }

    private static void dropBad() {
        Edge.promise(5, "BAD");
        for (int row : new int[] {LEAST, -1, 8, MOST}) Edge.still(Starts::lifted, Due.BAD, "drop", row);
        PaperedOver x = Starts.lifted();
        Edge.due(x, 3, "drop", 0);
        Edge.due(x, 1, "drop", 7);
    }

    private static void dropNull() {
        Edge.promise(5, "NULL");
        for (int row = 4; row <= 6; row++) Edge.still(Starts::lifted, Due.NULL, "drop", row);
        PaperedOver x = Starts.lifted();
        Edge.due(x, 0, "drop", 3);
        Edge.due(x, 0, "status");
        Edge.due(x, Due.NULL, "drop", 3);
        Edge.due(x, 1, "status");
    }
}
