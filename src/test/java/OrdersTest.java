/** Promises 14 to 17: orders, first, odds, next. */
public final class OrdersTest {
    public static void main(String[] args) {
        orders();
        first();
        odds();
        oddsRefused();
        next();
        afterChanges();
        Due.end();
    }

    /** A house of ten papers with chains lifted on one wall. */
    private static PaperedOver with(int[]... chains) {
        PaperedOver x = Due.standing(Due.plain(1, 10));
        for (int[] chain : chains) Due.lift(x, 0, chain);
        return x;
    }

    private static int[] c(int... papers) {
        return papers;
    }

    private static void orders() {
        Due.is("no house", new PaperedOver().orders(), Due.STATE);
        Due.is("no spots", with().orders(), 1);
        Due.is("one paper", with(c(6)).orders(), 1);
        Due.is("two chains of two", with(c(3, 1), c(9, 4)).orders(), 6);
        Due.is("an N", with(c(0, 2), c(1, 2), c(1, 3)).orders(), 5);
        Due.is("a diamond", with(c(7, 5, 1), c(7, 6, 1)).orders(), 2);
        Due.is("five chains of two", with(c(0, 1), c(2, 3), c(4, 5), c(6, 7), c(8, 9)).orders(), 113400);
        Due.is("eight free ones and a pair", with(c(0), c(1), c(2), c(3), c(4), c(5), c(6), c(7), c(9, 8)).orders(), 1814400);
        Due.is("eight in a row", with(c(9, 8, 7, 6, 5, 4, 3, 2)).orders(), 1);
        Due.is("a ring", with(c(0, 1), c(1, 0)).orders(), 0);
        Due.is("a ring and a free one", with(c(0, 1), c(5), c(1, 2, 0)).orders(), 0);
    }

    private static void row(PaperedOver x, int... want) {
        for (int i = 0; i < want.length; i++) Due.is("first at " + i, x.first(i), want[i]);
        Due.is("first behind", x.first(want.length), Due.NONE);
    }

    private static void first() {
        PaperedOver none = new PaperedOver();
        Due.is("no house", none.first(0), Due.STATE);
        Due.is("STATE ahead of BAD", none.first(-1), Due.STATE);
        row(with());
        row(with(c(9), c(0), c(4)), 0, 4, 9);
        row(with(c(5, 0), c(3)), 3, 5, 0);
        row(with(c(9, 0), c(8, 1, 0), c(2)), 2, 8, 1, 9, 0);
        row(with(c(9, 8, 7, 6), c(0, 6, 5)), 0, 9, 8, 7, 6, 5);
        PaperedOver ring = with(c(4), c(2, 1), c(1, 2));
        row(ring);
        Due.is("place -1", ring.first(-1), Due.BAD);
        Due.is("place far", ring.first(Integer.MAX_VALUE), Due.NONE);
        Due.is("place least", ring.first(Integer.MIN_VALUE), Due.BAD);
    }

    private static void fraction(PaperedOver x, int a, int b, int above, int below) {
        Due.is("odds " + a + " " + b + " above", x.odds(a, b, 0), above);
        Due.is("odds " + a + " " + b + " below", x.odds(a, b, 1), below);
    }

    private static void odds() {
        PaperedOver x = with(c(0, 2), c(1, 2), c(1, 3));
        // The five orders: 0123 0132 1023 1032 1302.
        fraction(x, 0, 1, 2, 5);
        fraction(x, 1, 0, 3, 5);
        fraction(x, 0, 2, 1, 1);
        fraction(x, 2, 0, 0, 1);
        fraction(x, 2, 3, 2, 5);
        fraction(x, 3, 2, 3, 5);
        fraction(x, 0, 3, 4, 5);
        fraction(x, 3, 0, 1, 5);
        PaperedOver y = with(c(3, 1), c(9, 4));
        fraction(y, 3, 9, 1, 2);
        fraction(y, 3, 4, 5, 6);
        fraction(y, 1, 9, 1, 6);
        fraction(y, 1, 3, 0, 1);
        fraction(with(c(0), c(1), c(2), c(3), c(4), c(5), c(6), c(7), c(9, 8)), 9, 0, 2, 3);
    }

    private static void oddsRefused() {
        PaperedOver none = new PaperedOver();
        Due.is("no house", none.odds(0, 1, 0), Due.BAD);
        PaperedOver x = with(c(0), c(1), c(2));
        Due.is("alike", x.odds(1, 1, 0), Due.BAD);
        Due.is("the one not seen", x.odds(3, 1, 0), Due.BAD);
        Due.is("the other not seen", x.odds(1, 3, 0), Due.BAD);
        Due.is("no paper", x.odds(0, 10, 0), Due.BAD);
        Due.is("no paper 32", x.odds(32, 1, 0), Due.BAD);
        Due.is("no paper -1", x.odds(-1, 0, 0), Due.BAD);
        Due.is("what 2", x.odds(0, 1, 2), Due.BAD);
        Due.is("what -1", x.odds(0, 1, -1), Due.BAD);
        Due.lift(x, 0, 4, 5);
        Due.lift(x, 0, 5, 4);
        Due.is("a ring", x.odds(0, 1, 0), Due.STATE);
        Due.is("BAD ahead of STATE", x.odds(0, 3, 0), Due.BAD);
        Due.is("BAD what ahead of STATE", x.odds(0, 1, 2), Due.BAD);
    }

    private static void next() {
        Due.is("no house", new PaperedOver().next(), Due.STATE);
        Due.is("no spots", with().next(), Due.NONE);
        Due.is("one", with(c(4)).next(), Due.NONE);
        Due.is("all sure", with(c(4, 2, 8)).next(), Due.NONE);
        Due.is("sure through others", with(c(4, 2), c(2, 8)).next(), Due.NONE);
        Due.is("two", with(c(9), c(8)).next(), 89);
        Due.is("the first of several", with(c(3), c(7), c(5)).next(), 35);
        Due.is("0 and 1", with(c(1), c(0)).next(), 1);
        // Parted 3 : 2 by 0 and 1, 4 : 1 by 0 and 3, 3 : 2 by 2 and 3.
        Due.is("an N", with(c(0, 2), c(1, 2), c(1, 3)).next(), 1);
        // The free one stands evenly only against the middle of three.
        Due.is("the middle", with(c(1, 5, 9), c(0)).next(), 5);
        Due.is("the middle, the other way", with(c(9, 5, 1), c(8)).next(), 58);
        Due.is("the even pair of two chains", with(c(1, 3), c(0, 2)).next(), 1);
        Due.is("a later pair is more even", with(c(0, 3, 4), c(1)).next(), 13);
        Due.is("a ring", with(c(0, 1), c(1, 0), c(3)).next(), Due.STATE);
    }

    private static void afterChanges() {
        PaperedOver x = with(c(0), c(1), c(2));
        Due.is("three free", x.orders(), 6);
        fraction(x, 0, 1, 1, 2);
        Due.lift(x, 0, 1, 0);
        Due.is("after a lift", x.orders(), 3);
        fraction(x, 0, 1, 0, 1);
        x.image(1);
        x.forget();
        Due.is("after it was forgotten", x.orders(), 6);
        fraction(x, 0, 1, 1, 2);
        x.restore(1);
        Due.is("restored", x.orders(), 3);
        Due.is("next restored", x.next(), 2);
        Due.house(x, Due.plain(1, 2));
        Due.is("a new house", x.orders(), 1);
        Due.is("next there", x.next(), Due.NONE);
    }
}
