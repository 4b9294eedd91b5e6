/** Objects that hold something of everything, so that a call that changes too much is seen. */
final class Starts {
    /** What stands on the tape, and in IMAGE 0. */
    static final String SMALL = "wall 1720 60 110;paper news 1790 1791 3 7;";
    /** The text of a FAULT 2 at place 5. */
    static final String SLIP = "wall 1";
    private static final String LARGE = "wall 1800 120 250;wall 1850 60 300;wall 1700 999 400;"
        + "paper plain 1790 1860 5 50;paper stamp 1840 1845 9 7;paper news 1860 1861 1 30;"
        + "paper rest 1700 1999 20 12;paper paint 1800 1900 2 1;paper plain 1900 1950 40 99;"
        + "tenant 1800 1850 10;tenant 1840 1999 50;";

    private Starts() {
    }

    /** No HOUSE; the latest finding is NULL. */
    static PaperedOver bare() {
        PaperedOver x = new PaperedOver();
        Due.house(x, SLIP);
        fillRows(x);
        Due.feed(x, SMALL);
        x.drop(4);
        return x;
    }

    /** Three WALLS, six PAPERS (5 is not SEEN), two TENANTS, four SPOTS; IMAGE 1 is not kept; KIND was found. */
    static PaperedOver lifted() {
        return lifted(SLIP, SMALL);
    }

    /** The same behind the FAULT of one text, with another text on the tape. */
    static PaperedOver lifted(String slip, String tape) {
        PaperedOver x = new PaperedOver();
        Due.house(x, slip);
        Due.house(x, SMALL);
        Due.lift(x, 0, 0);
        x.image(0);
        Due.house(x, LARGE);
        Due.lift(x, 0, 0, 1, 2);
        Due.lift(x, 0, 3, 2);
        Due.lift(x, 1, 0, 2);
        Due.lift(x, 2, 4);
        x.ask(3, 0);
        fillRows(x);
        Due.feed(x, tape);
        x.as(0, 5);
        return x;
    }

    /** The same, but NULL was found last. */
    static PaperedOver missed() {
        PaperedOver x = lifted();
        x.drop(4);
        return x;
    }

    /** 0, 1 and 2 are a RING. */
    static PaperedOver ringed() {
        PaperedOver x = lifted();
        Due.lift(x, 2, 2, 0);
        x.as(0, 5);
        return x;
    }

    /** Nine SPOTS. */
    static PaperedOver full() {
        PaperedOver x = lifted();
        for (int i = 0; i < 5; i++) Due.lift(x, i % 3, 4);
        x.as(0, 5);
        return x;
    }

    /** A tape with so many bytes, the text first and then blanks. */
    static PaperedOver tape(int bytes) {
        return lifted(SLIP, SMALL + " ".repeat(bytes - SMALL.length()));
    }

    static PaperedOver brim() {
        return tape(500);
    }

    static void fill(PaperedOver x, int row, int lane, int... items) {
        x.row(row, lane, items.length);
        for (int i = 0; i < items.length; i++) x.set(row, i, items[i]);
    }

    /** ROWS 4 to 6 stay missing, ROW 3 has no ITEMS. */
    private static void fillRows(PaperedOver x) {
        fill(x, 0, 0, 1, 2, 4);
        fill(x, 1, 1, 3, 0);
        fill(x, 2, 2, 5);
        x.row(3, 0, 0);
    }
}
