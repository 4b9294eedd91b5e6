/** Promises 9 to 13: lift, forget, spot, papers, paper. */
public final class SpotsTest {
    public static void main(String[] args) {
        lift();
        liftRefused();
        forget();
        spot();
        seenAndOn();
        sureAndRings();
        papersRefused();
        paper();
        Due.end();
    }

    private static void lift() {
        PaperedOver x = Due.standing(Due.plain(2, 10));
        x.row(0, 0, 12);
        for (int i = 0; i < 10; i++) x.set(0, i + 1, 9 - i);
        Due.is("the first", x.lift(1, 0, 1, 8), 0);
        Due.is("the next", x.lift(0, 0, 10, 1), 1);
        Due.is("up to the end", x.lift(0, 0, 11, 1), 2);
        for (int k = 0; k < 8; k++) Due.is("layer " + k, x.spot(0, k), 9 - k);
        Due.is("one layer", x.spot(1, 0), 0);
        Due.is("spots", x.count(4), 3);
        x.set(0, 1, 3);
        x.drop(0);
        Due.is("a spot does not hang on its row", x.spot(0, 0), 9);
        for (int i = 3; i < 9; i++) Due.is("spot " + i, Due.lift(x, 0, 5), i);
        Due.is("nine are full", Due.lift(x, 0, 5), Due.FULL);
        Due.is("still nine", x.count(4), 9);
    }

    private static void liftRefused() {
        PaperedOver x = new PaperedOver();
        x.row(0, 2, 9);
        Due.is("no house", x.lift(0, 0, 0, 1), Due.BAD);
        Due.house(x, Due.plain(2, 3));
        Due.is("wall -1", x.lift(-1, 0, 0, 1), Due.BAD);
        Due.is("wall 2", x.lift(2, 0, 0, 1), Due.BAD);
        Due.is("row -1", x.lift(0, -1, 0, 1), Due.BAD);
        Due.is("row 8", x.lift(0, 8, 0, 1), Due.BAD);
        Due.is("n 0", x.lift(0, 0, 0, 0), Due.BAD);
        Due.is("n 9", x.lift(0, 0, 0, 9), Due.BAD);
        Due.is("n -1", x.lift(0, 0, 0, -1), Due.BAD);
        Due.is("BAD ahead of NULL", x.lift(0, 1, 0, 9), Due.BAD);
        Due.is("NULL", x.lift(0, 1, 0, 1), Due.NULL);
        Due.is("NULL told", x.status(), 1);
        Due.is("NULL ahead of PLACE", x.lift(0, 1, -1, 1), Due.NULL);
        Due.is("place -1", x.lift(0, 0, -1, 1), Due.PLACE);
        Due.is("PLACE told", x.status(), 2);
        Due.is("place beyond", x.lift(0, 0, 2, 8), Due.PLACE);
        Due.is("place far beyond", x.lift(0, 0, Integer.MAX_VALUE, 8), Due.PLACE);
        Due.is("PLACE ahead of what the items are", x.lift(0, 0, 8, 2), Due.PLACE);
        Due.is("told twice", x.lift(0, 0, 0, 2), Due.BAD);
        Due.is("BAD leaves status", x.status(), 2);
        Due.is("one", x.lift(0, 0, 0, 1), 0);
        Due.is("without a finding", x.status(), 0);
        x.drop(1);
        for (int item : new int[] {3, -1, 32, 256, Integer.MIN_VALUE, Integer.MAX_VALUE}) {
            Due.is("no paper " + item, Due.lift(x, 1, 0, item), Due.BAD);
        }
        Due.is("twice, apart", Due.lift(x, 1, 0, 1, 0), Due.BAD);
        Due.is("no more spots", x.count(4), 1);
        Due.is("no more seen", x.papers(0), 1);
        fullAheadOfFindings(x);
    }

    private static void fullAheadOfFindings(PaperedOver x) {
        for (int i = 1; i < 9; i++) Due.lift(x, 0, 2);
        x.set(0, 9, 0);
        Due.is("FULL ahead of NULL", x.lift(0, 1, 0, 1), Due.FULL);
        Due.is("FULL ahead of PLACE", x.lift(0, 0, 9, 1), Due.FULL);
        Due.is("FULL ahead of items", x.lift(0, 0, 0, 2), Due.FULL);
        Due.is("BAD ahead of FULL", x.lift(2, 0, 0, 1), Due.BAD);
        Due.is("FULL leaves status", x.status(), 2);
    }

    private static void forget() {
        PaperedOver x = Due.standing(Due.plain(1, 3));
        Due.is("none", x.forget(), Due.STATE);
        Due.lift(x, 0, 0, 1);
        Due.lift(x, 0, 1, 2);
        Due.is("sure through both", x.papers(12), 3);
        Due.is("one left", x.forget(), 1);
        Due.is("no such spot", x.spot(1, 0), Due.BAD);
        Due.is("seen", x.papers(0), 3);
        Due.is("no longer sure", x.papers(12), 0);
        Due.is("no longer on the wall", x.papers(30), 3);
        Due.is("none left", x.forget(), 0);
        Due.is("nothing seen", x.papers(0), 0);
        Due.is("none again", x.forget(), Due.STATE);
        Due.is("numbered from 0 again", Due.lift(x, 0, 2), 0);
    }

    private static void spot() {
        PaperedOver x = Due.standing(Due.plain(3, 4));
        Due.lift(x, 2, 3, 1);
        Due.lift(x, 0, 0);
        Due.is("wall", x.spot(0, -1), 2);
        Due.is("wall of the other", x.spot(1, -1), 0);
        Due.is("on the wall", x.spot(0, 0), 3);
        Due.is("on that", x.spot(0, 1), 1);
        Due.is("not so many", x.spot(0, 2), Due.NONE);
        Due.is("not so many by far", x.spot(0, Integer.MAX_VALUE), Due.NONE);
        Due.is("not so many, 1", x.spot(1, 1), Due.NONE);
        Due.is("k -2", x.spot(0, -2), Due.BAD);
        Due.is("k least", x.spot(0, Integer.MIN_VALUE), Due.BAD);
        Due.is("spot -1", x.spot(-1, 0), Due.BAD);
        Due.is("spot 2", x.spot(2, 0), Due.BAD);
        Due.is("spot 9", x.spot(9, -1), Due.BAD);
    }

    private static void seenAndOn() {
        PaperedOver x = Due.standing(Due.plain(8, 10));
        Due.is("nothing seen", x.papers(0), 0);
        Due.lift(x, 7, 9, 2);
        Due.lift(x, 0, 4);
        Due.lift(x, 7, 0);
        Due.is("seen", x.papers(0), 1 << 9 | 1 << 4 | 1 << 2 | 1);
        Due.is("on 7", x.papers(37), 1 << 9 | 1 << 2 | 1);
        Due.is("on 0", x.papers(30), 1 << 4);
        Due.is("on 3", x.papers(33), 0);
    }

    private static void sureAndRings() {
        PaperedOver x = Due.standing(Due.plain(2, 10));
        Due.lift(x, 0, 5, 3, 9);
        Due.lift(x, 1, 9, 0);
        Due.lift(x, 1, 8, 3);
        int[] sure = {1 << 9 | 1 << 3 | 1 << 5 | 1 << 8, 0, 0, 1 << 5 | 1 << 8, 0, 0, 0, 0, 0, 1 << 3 | 1 << 5 | 1 << 8};
        for (int p = 0; p < 10; p++) Due.is("sure ahead of " + p, x.papers(10 + p), sure[p]);
        Due.is("no ring", x.papers(1), 0);
        Due.lift(x, 1, 0, 3);
        Due.is("a ring of three", x.papers(1), 1 << 3 | 1 << 9 | 1);
        Due.is("sure ahead of itself", x.papers(13), 1 << 3 | 1 << 9 | 1 | 1 << 5 | 1 << 8);
        Due.is("ahead of a ring", x.papers(15), 0);
        Due.lift(x, 1, 0, 7, 6);
        Due.is("behind a ring is not in it", x.papers(1), 1 << 3 | 1 << 9 | 1);
        Due.is("sure behind a ring", x.papers(16), 1 << 3 | 1 << 9 | 1 | 1 << 5 | 1 << 8 | 1 << 7);
        Due.lift(x, 1, 2, 1);
        Due.lift(x, 0, 1, 2);
        Due.is("two rings", x.papers(1), 1 << 3 | 1 << 9 | 1 | 1 << 2 | 1 << 1);
        x.forget();
        x.forget();
        x.forget();
        x.forget();
        Due.is("the slip is gone", x.papers(1), 0);
    }

    private static void papersRefused() {
        PaperedOver x = new PaperedOver();
        Due.is("STATE ahead of BAD", x.papers(-1), Due.STATE);
        Due.house(x, Due.plain(2, 3));
        int[] bad = {-1, 2, 9, 13, 19, 20, 29, 32, 38, 40, Integer.MAX_VALUE, Integer.MIN_VALUE};
        for (int what : bad) Due.is("papers " + what, x.papers(what), Due.BAD);
        Due.is("papers 12", x.papers(12), 0);
        Due.is("papers 31", x.papers(31), 0);
        Due.house(x, Due.plain(8, 10));
        for (int what : new int[] {20, 29, 38}) Due.is("papers " + what, x.papers(what), Due.BAD);
    }

    private static void paper() {
        PaperedOver x = Due.standing("wall 1700 50 100;paper paint 1750 1760 33 44;paper rest 1800 1999 0 99;");
        int[][] want = {{1750, 1760, 33, 44}, {1800, 1999, 0, 99}};
        for (int p = 0; p < 2; p++) {
            for (int what = 0; what < 4; what++) Due.is("paper " + p + " " + what, x.paper(p, what), want[p][what]);
        }
        Due.is("what -1", x.paper(0, -1), Due.BAD);
        Due.is("what 4", x.paper(0, 4), Due.BAD);
        Due.is("paper -1", x.paper(-1, 0), Due.BAD);
        Due.is("paper 2", x.paper(2, 0), Due.BAD);
    }
}
