/** Promises 26 and 27: image, restore. */
public final class ImagesTest {
    private static final String ONE = "wall 1800 100 200;paper stamp 1810 1820 3 4;paper news 1830 1840 5 6;tenant 1700 1999 99;";
    private static final String TWO = "wall 1900 300 300;wall 1910 60 100;paper paint 1700 1999 7 8;";

    public static void main(String[] args) {
        refused();
        keptAndRestored();
        notHeldInCommon();
        wholeSpots();
        othersStay();
        Due.end();
    }

    private static void refused() {
        PaperedOver x = new PaperedOver();
        Due.is("image 2, no house", x.image(2), Due.BAD);
        Due.is("image -1", x.image(-1), Due.BAD);
        Due.is("image without a house", x.image(1), Due.STATE);
        Due.is("restore 2", x.restore(2), Due.BAD);
        Due.is("restore -1", x.restore(-1), Due.BAD);
        Due.house(x, ONE);
        Due.is("none was kept", x.restore(0), Due.STATE);
        Due.is("keep 0", x.image(0), 1);
        Due.is("none was kept of 1", x.restore(1), Due.STATE);
        Due.is("the house stays", x.count(2), 2);
    }

    private static void keptAndRestored() {
        PaperedOver x = Due.standing(ONE);
        Due.lift(x, 0, 1, 0);
        Due.is("keep 0", x.image(0), 1);
        Due.house(x, TWO);
        Due.lift(x, 1, 0);
        Due.lift(x, 0, 0);
        Due.is("keep 1", x.image(1), 1);
        Due.is("back to 0", x.restore(0), 1);
        likeOne(x);
        Due.is("on to 1", x.restore(1), 1);
        likeTwo(x);
        Due.is("back to 0 again", x.restore(0), 1);
        likeOne(x);
        Due.is("kept in place of the other", x.image(1), 1);
        x.forget();
        Due.is("restore 1", x.restore(1), 1);
        likeOne(x);
    }

    private static void likeOne(PaperedOver x) {
        Due.is("walls", x.count(1), 1);
        Due.is("papers", x.count(2), 2);
        Due.is("tenants", x.count(3), 1);
        Due.is("spots", x.count(4), 1);
        Due.is("made", x.paper(1, 0), 1830);
        Due.is("last", x.paper(1, 1), 1840);
        Due.is("price", x.paper(1, 2), 5);
        Due.is("repeat", x.paper(1, 3), 6);
        Due.is("kind", x.kind(1), 3);
        Due.is("wall", x.spot(0, -1), 0);
        Due.is("layer", x.spot(0, 0), 1);
        Due.is("sure", x.papers(10), 2);
        Due.is("least", x.years(0, 0), 1831);
        Due.is("most", x.years(1, 1), 1819);
        Due.is("strips by its wall", x.rolls(0, 1, 0), 2);
        Due.is("left by its wall", x.rolls(0, 1, 2), 600);
        Due.is("orders", x.orders(), 1);
    }

    private static void likeTwo(PaperedOver x) {
        Due.is("walls", x.count(1), 2);
        Due.is("papers", x.count(2), 1);
        Due.is("tenants", x.count(3), 0);
        Due.is("spots", x.count(4), 2);
        Due.is("wall", x.spot(0, -1), 1);
        Due.is("other wall", x.spot(1, -1), 0);
        Due.is("least", x.years(0, 0), 1910);
        Due.is("rolls", x.rolls(0, 3, 1), 1);
        Due.is("seen", x.papers(0), 1);
    }

    private static void notHeldInCommon() {
        PaperedOver x = Due.standing(ONE);
        Due.lift(x, 0, 0);
        x.image(0);
        Due.lift(x, 0, 1);
        Due.is("the image has one spot", x.restore(0), 1);
        Due.is("one spot", x.count(4), 1);
        x.forget();
        Due.lift(x, 0, 1, 0);
        x.restore(0);
        Due.is("as it was kept", x.spot(0, 0), 0);
        Due.is("one layer", x.spot(0, 1), Due.NONE);
        x.forget();
        x.restore(0);
        Due.is("again", x.spot(0, 0), 0);
    }

    private static void wholeSpots() {
        PaperedOver x = Due.standing(Due.plain(8, 10));
        for (int s = 0; s < 9; s++) Due.lift(x, 7 - s % 8, 2, 3, 4, 5, 6, 7, 8, 9);
        x.image(0);
        for (int s = 0; s < 9; s++) x.forget();
        for (int s = 0; s < 9; s++) Due.lift(x, s % 8, 0, 1);
        x.restore(0);
        for (int s = 0; s < 9; s++) {
            Due.is("wall of " + s, x.spot(s, -1), 7 - s % 8);
            for (int k = 0; k < 8; k++) Due.is("layer " + k + " of " + s, x.spot(s, k), k + 2);
        }
    }

    private static void othersStay() {
        PaperedOver x = Due.standing(ONE);
        x.image(0);
        Due.house(x, "wall 1");
        x.feed(32, 1);
        x.ask(0, 0);
        x.row(3, 1, 5);
        x.set(3, 9, 0);
        x.restore(0);
        Due.is("fault stays", x.fault(), 2);
        Due.is("tape stays", x.count(5), 1);
        Due.is("trace stays", x.trace(0), 13);
        Due.is("rows stay", x.count(0), 1);
        Due.is("status stays", x.status(), 2);
        Due.is("the row itself stays", x.drop(3), 5);
    }
}
