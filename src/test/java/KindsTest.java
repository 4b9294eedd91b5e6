/** Promises 28 to 33: kind, as, ask, trace, count, status. */
public final class KindsTest {
    private static final String HOUSE = "wall 1700 100 100;paper plain 1701 1999 5 50;paper stamp 1702 1999 6 40;"
        + "paper news 1703 1999 7 30;paper rest 1704 1999 8 20;paper paint 1705 1999 9 10;";

    public static void main(String[] args) {
        kind();
        as();
        ask();
        askRefused();
        count();
        status();
        Due.end();
    }

    private static void kind() {
        PaperedOver x = Due.standing(HOUSE);
        int[] kinds = {1, 2, 3, 4, 5};
        for (int p = 0; p < 5; p++) Due.is("kind of " + p, x.kind(p), kinds[p]);
        Due.is("paper 5", x.kind(5), Due.BAD);
        Due.is("paper -1", x.kind(-1), Due.BAD);
        Due.is("no house", new PaperedOver().kind(0), Due.BAD);
    }

    private static void as() {
        PaperedOver x = Due.standing(HOUSE);
        String[] fits = {"110000", "101000", "101100", "110010", "100001"};
        for (int p = 0; p < 5; p++) {
            for (int k = 0; k < 6; k++) {
                Due.is("as " + p + " " + k, x.as(p, k), fits[p].charAt(k) == '1' ? p : Due.KIND);
            }
        }
        Due.is("kind 6", x.as(0, 6), Due.BAD);
        Due.is("kind -1", x.as(0, -1), Due.BAD);
        Due.is("paper 5", x.as(5, 0), Due.BAD);
        Due.is("paper -1", x.as(-1, 0), Due.BAD);
        Due.is("no house", new PaperedOver().as(0, 0), Due.BAD);
    }

    private static void asked(PaperedOver x, int paper, int what, int answer, int... bodies) {
        Due.is("ask " + paper + " " + what, x.ask(paper, what), answer);
        for (int i = 0; i < bodies.length; i++) Due.is("trace " + paper + " " + what + " at " + i, x.trace(i), bodies[i]);
        for (int i = bodies.length; i < 18; i++) Due.is("trace behind", x.trace(i), Due.NONE);
    }

    private static void ask() {
        PaperedOver x = Due.standing(HOUSE);
        asked(x, 0, 0, 55, 11, 10, 21, 20);
        asked(x, 0, 1, 5, 21, 20);
        asked(x, 1, 0, 34, 13, 10);
        asked(x, 1, 1, 1703, 22, 20);
        asked(x, 2, 0, 46, 14, 13, 10);
        asked(x, 2, 1, 1705, 22, 20);
        asked(x, 3, 0, 969, 12, 11, 10, 24, 21, 20);
        asked(x, 3, 1, -989, 24, 21, 20);
        asked(x, 4, 0, 10, 10);
        asked(x, 4, 1, -6, 23, 20, 10);
        asked(x, 0, 0, 55, 11, 10, 21, 20);
    }

    private static void askRefused() {
        PaperedOver none = new PaperedOver();
        Due.is("no house", none.ask(0, 0), Due.BAD);
        Due.is("an empty trace", none.trace(0), Due.NONE);
        PaperedOver x = Due.standing(HOUSE);
        x.ask(4, 1);
        Due.is("what 2", x.ask(0, 2), Due.BAD);
        Due.is("what -1", x.ask(0, -1), Due.BAD);
        Due.is("paper 5", x.ask(5, 0), Due.BAD);
        Due.is("paper -1", x.ask(-1, 0), Due.BAD);
        Due.is("the trace stays", x.trace(0), 23);
        Due.is("all of it", x.trace(2), 10);
        Due.is("no more of it", x.trace(3), Due.NONE);
        Due.is("trace -1", x.trace(-1), Due.NONE);
        Due.is("trace least", x.trace(Integer.MIN_VALUE), Due.NONE);
        Due.is("trace most", x.trace(Integer.MAX_VALUE), Due.NONE);
    }

    private static void count() {
        PaperedOver x = Due.standing(HOUSE + "tenant 1700 1999 3;tenant 1700 1999 3;");
        Due.lift(x, 0, 1);
        Due.lift(x, 0, 1);
        Due.lift(x, 0, 1);
        for (int row = 0; row < 8; row++) x.row(row, 0, row);
        x.feed(0, 7);
        int[] want = {8, 1, 5, 2, 3, 7};
        for (int what = 0; what < 6; what++) Due.is("count " + what, x.count(what), want[what]);
        x.drop(0);
        x.drop(5);
        Due.is("rows", x.count(0), 6);
        Due.is("what 6", x.count(6), Due.BAD);
        Due.is("what -1", x.count(-1), Due.BAD);
    }

    private static void status() {
        PaperedOver x = Due.standing(HOUSE);
        Due.is("none before", x.status(), 0);
        x.as(0, 2);
        Due.is("KIND", x.status(), 3);
        x.as(0, 6);
        Due.is("BAD leaves it", x.status(), 3);
        x.as(0, 1);
        Due.is("as", x.status(), 0);
        x.as(0, 2);
        x.lift(0, 0, 0, 9);
        Due.is("BAD lift leaves it", x.status(), 3);
        x.lift(0, 0, 0, 1);
        Due.is("NULL by lift", x.status(), 1);
        x.row(0, 0, 2);
        x.as(0, 2);
        x.lift(0, 0, 0, 2);
        Due.is("items that are BAD leave it", x.status(), 3);
        x.lift(0, 0, 2, 1);
        Due.is("PLACE by lift", x.status(), 2);
        x.lift(0, 0, 0, 1);
        Due.is("lift", x.status(), 0);
        x.as(0, 2);
        Due.house(x, HOUSE);
        Due.is("a house leaves it", x.status(), 3);
    }
}
