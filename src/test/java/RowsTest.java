/** Promises 2 to 5 (row, set, copy, drop), and 33 (status) as far as these are told by it. */
public final class RowsTest {
    public static void main(String[] args) {
        row();
        set();
        copy();
        copyRefused();
        drop();
        status();
        Due.end();
    }

    /** Ten papers, so that what is in a row can be looked at by lifting it. */
    private static PaperedOver fresh() {
        return Due.standing(Due.plain(1, 10));
    }

    private static void items(PaperedOver x, String what, int row, int... want) {
        int spot = x.lift(0, row, 0, want.length);
        for (int k = 0; k < want.length; k++) Due.is(what + ", item " + k, x.spot(spot, k), want[k]);
        x.forget();
    }

    private static void fill(PaperedOver x, int row, int lane, int... items) {
        x.row(row, lane, items.length);
        for (int i = 0; i < items.length; i++) x.set(row, i, items[i]);
    }

    private static void row() {
        PaperedOver x = fresh();
        Due.is("row of none", x.row(0, 0, 0), 0);
        Due.is("row of 40", x.row(7, 2, 40), 40);
        Due.is("rows", x.count(0), 2);
        Due.is("set beyond none", x.set(0, 0, 1), Due.PLACE);
        Due.is("set the last of 40", x.set(7, 39, 70000), 70000);
        Due.is("row above 40", x.row(1, 0, 41), Due.BAD);
        Due.is("row -1", x.row(-1, 0, 1), Due.BAD);
        Due.is("row 8", x.row(8, 0, 1), Due.BAD);
        Due.is("lane -1", x.row(1, -1, 1), Due.BAD);
        Due.is("lane 3", x.row(1, 3, 1), Due.BAD);
        Due.is("size", x.row(1, 0, -1), Due.SIZE);
        Due.is("size, the least int", x.row(7, 0, Integer.MIN_VALUE), Due.SIZE);
        Due.is("BAD ahead of size", x.row(8, 0, -1), Due.BAD);
        Due.is("BAD lane ahead of size", x.row(1, 3, -1), Due.BAD);
        Due.is("rows after refusals", x.count(0), 2);
        Due.is("what is found changes nothing", x.set(7, 39, 70000), 70000);
        fill(x, 2, 0, 9);
        items(x, "as set", 2, 9);
        Due.is("in place of what is there", x.row(2, 1, 1), 1);
        items(x, "0 at first", 2, 0);
        Due.is("its new lane", x.set(2, 0, 30000), 30000);
        Due.is("its new size", x.set(2, 1, 0), Due.PLACE);
    }

    private static void set() {
        PaperedOver x = fresh();
        int[][] dues = {
            {0, 127, 127}, {0, 128, -128}, {0, 255, -1}, {0, 256, 0}, {0, -129, 127}, {0, Integer.MIN_VALUE, 0},
            {1, 32767, 32767}, {1, 32768, -32768}, {1, 65535, -1}, {1, 65536, 0}, {1, -32769, 32767}, {1, 200, 200},
            {2, Integer.MAX_VALUE, Integer.MAX_VALUE}, {2, Integer.MIN_VALUE, Integer.MIN_VALUE}, {2, -1, -1}};
        for (int[] due : dues) {
            x.row(3, due[0], 2);
            Due.is("set lane " + due[0] + " to " + due[1], x.set(3, 1, due[1]), due[2]);
        }
        Due.is("set row -1", x.set(-1, 0, 0), Due.BAD);
        Due.is("set row 8", x.set(8, 0, 0), Due.BAD);
        Due.is("set a missing row", x.set(4, -1, 0), Due.NULL);
        fill(x, 3, 0, 4, 5);
        Due.is("set -1", x.set(3, -1, 7), Due.PLACE);
        Due.is("set behind the end", x.set(3, 2, 7), Due.PLACE);
        Due.is("set far behind", x.set(3, Integer.MAX_VALUE, 7), Due.PLACE);
        Due.is("set far ahead", x.set(3, Integer.MIN_VALUE, 7), Due.PLACE);
        items(x, "what is found changes nothing", 3, 4, 5);
        fill(x, 3, 0, 4, 256 + 6);
        items(x, "kept by its lane", 3, 4, 6);
    }

    private static void copy() {
        PaperedOver x = fresh();
        fill(x, 0, 0, 0, 1, 2, 3, 4, 5);
        fill(x, 1, 0, 9, 8, 7);
        Due.is("copy 2", x.copy(0, 4, 1, 1, 2), 2);
        items(x, "to", 1, 9, 4, 5);
        items(x, "from", 0, 0, 1, 2, 3, 4, 5);
        Due.is("copy none at the ends", x.copy(0, 6, 1, 3, 0), 0);
        Due.is("up within a row", x.copy(0, 0, 0, 2, 3), 3);
        x.set(0, 0, 8);
        x.set(0, 1, 9);
        items(x, "as they were ahead, up", 0, 8, 9, 0, 1, 2, 5);
        fill(x, 0, 0, 0, 1, 2, 3, 4, 5);
        Due.is("down within a row", x.copy(0, 2, 0, 0, 4), 4);
        x.set(0, 4, 8);
        x.set(0, 5, 9);
        items(x, "as they were ahead, down", 0, 2, 3, 4, 5, 8, 9);
        Due.is("all onto itself", x.copy(0, 0, 0, 0, 6), 6);
        items(x, "onto itself", 0, 2, 3, 4, 5, 8, 9);
        x.row(5, 2, 40);
        x.row(6, 2, 40);
        Due.is("all 40", x.copy(5, 0, 6, 0, 40), 40);
    }

    private static void copyRefused() {
        PaperedOver x = fresh();
        fill(x, 0, 0, 0, 1, 2);
        fill(x, 1, 0, 5, 6, 7);
        x.row(2, 1, 3);
        Due.is("from row -1", x.copy(-1, 0, 0, 0, 1), Due.BAD);
        Due.is("to row 8", x.copy(0, 0, 8, 0, 1), Due.BAD);
        Due.is("BAD ahead of NULL", x.copy(4, 0, 8, 0, 1), Due.BAD);
        Due.is("from a missing one", x.copy(4, 0, 0, 0, 1), Due.NULL);
        Due.is("to a missing one", x.copy(0, 0, 4, 0, 1), Due.NULL);
        Due.is("NULL ahead of PLACE", x.copy(0, -1, 4, 0, 1), Due.NULL);
        Due.is("two lanes", x.copy(0, 0, 2, 0, 1), Due.STORE);
        Due.is("two lanes, none", x.copy(2, 0, 0, 0, 0), Due.STORE);
        Due.is("STORE ahead of PLACE", x.copy(0, -1, 2, 0, 1), Due.STORE);
        int[][] places = {{-1, 0, 1}, {0, -1, 1}, {0, 0, -1}, {1, 0, 3}, {0, 1, 3}, {4, 0, 0}, {0, 4, 0},
            {Integer.MAX_VALUE, 0, 1}, {0, Integer.MAX_VALUE, 1}, {1, 1, Integer.MAX_VALUE}, {0, 0, Integer.MIN_VALUE},
            {Integer.MIN_VALUE, 0, Integer.MIN_VALUE}, {3, 0, 1}, {0, 3, 1}};
        for (int[] p : places) {
            Due.is("copy " + p[0] + " " + p[1] + " " + p[2], x.copy(0, p[0], 1, p[1], p[2]), Due.PLACE);
        }
        items(x, "from, after findings", 0, 0, 1, 2);
        items(x, "to, after findings", 1, 5, 6, 7);
    }

    private static void drop() {
        PaperedOver x = fresh();
        fill(x, 0, 0, 1, 2, 3);
        x.row(1, 0, 0);
        Due.is("drop 3", x.drop(0), 3);
        Due.is("it is missing", x.set(0, 0, 0), Due.NULL);
        Due.is("drop again", x.drop(0), Due.NULL);
        Due.is("rows", x.count(0), 1);
        Due.is("drop none", x.drop(1), 0);
        Due.is("an empty one is missing, too", x.drop(1), Due.NULL);
        Due.is("drop -1", x.drop(-1), Due.BAD);
        Due.is("drop 8", x.drop(8), Due.BAD);
        x.row(0, 0, 3);
        items(x, "0 at first", 0, 0);
    }

    private static void status() {
        PaperedOver x = fresh();
        x.row(0, 0, -1);
        Due.is("SIZE", x.status(), 4);
        x.row(0, 3, 1);
        Due.is("BAD leaves it", x.status(), 4);
        x.row(0, 0, 1);
        Due.is("row", x.status(), 0);
        x.set(1, 0, 0);
        Due.is("NULL", x.status(), 1);
        x.set(9, 0, 0);
        Due.is("BAD set leaves it", x.status(), 1);
        x.set(0, 0, 0);
        Due.is("set", x.status(), 0);
        x.set(0, 1, 0);
        Due.is("PLACE", x.status(), 2);
        x.copy(0, 0, 0, 0, 1);
        Due.is("copy", x.status(), 0);
        x.row(1, 1, 1);
        x.copy(0, 0, 1, 0, 1);
        Due.is("STORE", x.status(), 5);
        x.copy(0, 0, 9, 0, 1);
        Due.is("BAD copy leaves it", x.status(), 5);
        x.drop(9);
        Due.is("BAD drop leaves it", x.status(), 5);
        x.drop(1);
        Due.is("drop", x.status(), 0);
        x.drop(1);
        Due.is("NULL by drop", x.status(), 1);
        calmCalls(x);
        Due.is("calls without a row leave it", x.status(), 1);
        Due.is("status leaves it", x.status(), 1);
    }

    private static void calmCalls(PaperedOver x) {
        x.feed(32, 1);
        x.house();
        x.fault();
        x.forget();
        x.spot(0, 0);
        x.papers(0);
        x.paper(0, 0);
        x.orders();
        x.first(0);
        x.next();
        x.scrap(0, 0);
        x.tells(1);
        x.rolls(0, 1, 0);
        x.image(0);
        x.restore(0);
        x.kind(0);
        x.ask(0, 0);
        x.trace(0);
        x.count(0);
    }
}
