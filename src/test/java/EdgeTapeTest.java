/** Boundaries of promises 6 to 8: feed, house, fault. */
public final class EdgeTapeTest {
    private static final int LEAST = Integer.MIN_VALUE, MOST = Integer.MAX_VALUE;
    private static final String WALL = "wall 1800 100 200;";

    public static void main(String[] args) {
        lowestBytes();
        feedBad();
        feedFull();
        emptyThen();
        placeOfFault();
        whatStays();
        latestFault();
        Due.end();
    }

    private static void lowestBytes() {
        Edge.promise(6, "The lowest n bytes of w (1 to 8), the highest of them first, come behind the tape: how many it has.");
        for (int n = 1; n <= 8; n++) {
            PaperedOver x = new PaperedOver();
            for (int i = 0; i < WALL.length(); i += n) {
                int take = Math.min(n, WALL.length() - i);
                // All bytes above the lowest are 255: they would be a fault.
                long w = -1;
                for (int k = 0; k < take; k++) w = w << 8 | WALL.charAt(i + k);
                Edge.due(x, i + take, "feed", w, take);
            }
            Edge.due(x, 1, "house");
        }
        highBytes();
    }

    private static void highBytes() {
        for (long w : new long[] {-1, Long.MIN_VALUE, 0x80L << 48, Long.MAX_VALUE}) {
            PaperedOver x = new PaperedOver();
            Edge.is("a wall first", Due.feed(x, WALL), 18);
            Edge.due(x, 26, "feed", w, 8);
            Edge.due(x, -1000118, "house");
            Edge.due(x, 1, "fault");
        }
        PaperedOver x = new PaperedOver();
        // A blank, then a sign that is none: the highest comes first.
        Edge.due(x, 2, "feed", 0x203f, 2);
        Edge.due(x, -1000101, "house");
        Edge.due(x, 2, "feed", 0x3f20, 2);
        Edge.due(x, -1000100, "house");
    }

    private static void feedBad() {
        Edge.promise(6, "BAD: n");
        for (int n : new int[] {LEAST, -1, 0, 9, 10, MOST}) {
            Edge.still(Starts::lifted, Due.BAD, "feed", -1, n);
            Edge.still(Starts::brim, Due.BAD, "feed", -1, n);
        }
        Edge.due(new PaperedOver(), 1, "feed", 32, 1);
        Edge.due(new PaperedOver(), 8, "feed", 32, 8);
    }

    private static void feedFull() {
        Edge.promise(6, "FULL: none comes.");
        for (int room = 0; room <= 8; room++) {
            int bytes = 500 - room;
            for (int n = 1; n <= 8; n++) {
                if (n > room) Edge.still(() -> Starts.tape(bytes), Due.FULL, "feed", 0x3f3f3f3f3f3f3f3fL, n);
                else Edge.due(Starts.tape(bytes), bytes + n, "feed", 32, n);
            }
        }
        PaperedOver x = Starts.tape(497);
        Edge.due(x, Due.FULL, "feed", 0x3f3f3f3f, 4);
        Edge.due(x, 497, "count", 5);
        Edge.due(x, 500, "feed", 0x202020, 3);
        Edge.due(x, Due.FULL, "feed", 0x3f, 1);
        Edge.due(x, 1, "house");
        Edge.due(x, 1, "feed", 32, 1);
    }

    private static void emptyThen() {
        Edge.promise(7, "The tape, empty then, is read: how many WALLS there are.");
        for (int walls : new int[] {1, 2, 7, 8}) {
            PaperedOver x = new PaperedOver();
            Due.feed(x, WALL.repeat(walls));
            Edge.due(x, walls, "house");
            Edge.due(x, 0, "count", 5);
            Edge.due(x, 1, "feed", 32, 1);
        }
        PaperedOver x = new PaperedOver();
        Due.feed(x, "?" + WALL);
        Edge.due(x, -1000100, "house");
        Edge.due(x, 0, "count", 5);
        Edge.is("a text of its own then", Due.house(x, WALL), 1);
        Edge.due(x, -1000100, "house");
    }

    private static void placeOfFault() {
        Edge.promise(7, "-1000100 less the place of a FAULT");
        for (int place : new int[] {0, 1, 2, 498, 499}) {
            PaperedOver x = new PaperedOver();
            Edge.is("a slip at " + place, Due.house(x, " ".repeat(place) + "?"), -1000100 - place);
        }
        for (int bytes : new int[] {0, 1, 499, 500}) {
            PaperedOver x = new PaperedOver();
            Edge.is("the end at " + bytes, Due.house(x, "\n".repeat(bytes)), -1000100 - bytes);
        }
    }

    /** An object that read the slip is held against one that had no text on the tape, but the same FAULT before. */
    private static void whatStays() {
        Edge.promise(7, "all but the tape, and what fault() tells, stays.");
        String[] slips = {"", "?", "wall 1", WALL + "paper", WALL.repeat(9), WALL + "tenant 1800 1799 0;"};
        for (String slip : slips) {
            PaperedOver x = Starts.lifted("?", slip);
            int answer = x.house();
            Edge.is("'" + slip + "' is a slip", answer <= -1000100 ? 1 : 0, 1);
            Edge.alike("'" + slip + "'", x, Starts.lifted(slip, ""), 3);
        }
    }

    private static void latestFault() {
        Edge.promise(8, "The number of the latest FAULT; 0 before one.");
        PaperedOver x = new PaperedOver();
        Edge.due(x, 0, "fault");
        Edge.is("a house", Due.house(x, WALL), 1);
        Edge.due(x, 0, "fault");
        String[] slips = {WALL.repeat(8) + "wall", "wall 1", "?"};
        for (int number = 3; number >= 1; number--) {
            Due.house(x, slips[3 - number]);
            Edge.due(x, number, "fault");
            Edge.is("a house behind it", Due.house(x, WALL), 1);
            Edge.due(x, number, "fault");
        }
        Edge.due(x, Due.BAD, "feed", 0, 9);
        Edge.due(x, Due.STATE, "forget");
        Edge.due(x, 1, "fault");
    }
}
