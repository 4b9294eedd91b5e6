/** Promises 18 to 22: years, younger, lacks, tenants, cupboard. */
public final class YearsTest {
    public static void main(String[] args) {
        years();
        lastOnlyOfDated();
        yearsThroughOthers();
        cannotBe();
        yearsRefused();
        younger();
        lacks();
        never();
        tenants();
        tenantsOfNoYear();
        cupboard();
        Due.end();
    }

    private static void years(PaperedOver x, int paper, int least, int most) {
        Due.is("least of " + paper, x.years(paper, 0), least);
        Due.is("most of " + paper, x.years(paper, 1), most);
        Due.is("cannot be " + paper, x.years(paper, 2), least > most ? 1 : 0);
    }

    private static void years() {
        PaperedOver x = Due.standing("wall 1800 100 100;wall 1850 100 100;wall 1900 100 100;"
            + "paper plain 1790 1795 0 1;paper plain 1860 1861 0 1;");
        Due.lift(x, 0, 0);
        Due.lift(x, 0, 1);
        years(x, 0, 1800, 1999);
        years(x, 1, 1860, 1999);
        Due.lift(x, 1, 0);
        years(x, 0, 1850, 1999);
        Due.lift(x, 2, 1, 0);
        years(x, 1, 1900, 1998);
        years(x, 0, 1901, 1999);
    }

    private static void lastOnlyOfDated() {
        PaperedOver x = Due.standing("wall 1700 100 100;paper plain 1800 1801 0 1;paper news 1800 1802 0 1;"
            + "paper stamp 1800 1803 0 1;paper paint 1800 1804 0 1;paper rest 1800 1805 0 1;");
        int[] most = {1999, 1802, 1803, 1999, 1999};
        for (int p = 0; p < 5; p++) Due.lift(x, 0, p);
        for (int p = 0; p < 5; p++) years(x, p, 1800, most[p]);
    }

    private static void yearsThroughOthers() {
        PaperedOver x = Due.standing("wall 1700 100 100;paper plain 1800 1800 0 1;paper plain 1700 1700 0 1;"
            + "paper stamp 1750 1820 0 1;paper plain 1900 1900 0 1;paper plain 1700 1999 0 1;");
        Due.lift(x, 0, 0, 1, 2);
        Due.lift(x, 0, 4, 1, 3);
        years(x, 0, 1800, 1818);
        years(x, 1, 1801, 1819);
        years(x, 2, 1802, 1820);
        years(x, 3, 1900, 1999);
        years(x, 4, 1700, 1818);
    }

    private static void cannotBe() {
        PaperedOver x = Due.standing("wall 1999 100 100;paper stamp 1700 1700 0 1;paper plain 1700 1700 0 1;"
            + "paper plain 1700 1700 0 1;paper news 1999 1999 0 1;");
        Due.lift(x, 0, 3);
        years(x, 3, 1999, 1999);
        Due.lift(x, 0, 2, 1, 0);
        years(x, 0, 2001, 1700);
        years(x, 1, 2000, 1699);
        years(x, 2, 1999, 1698);
        Due.lift(x, 0, 3, 2);
        years(x, 2, 2000, 1698);
        years(x, 3, 1999, 1697);
    }

    private static void yearsRefused() {
        Due.is("no house", new PaperedOver().years(0, 0), Due.BAD);
        PaperedOver x = Due.standing(Due.plain(1, 4));
        Due.lift(x, 0, 0);
        Due.is("not seen", x.years(1, 0), Due.BAD);
        Due.is("no paper", x.years(4, 0), Due.BAD);
        Due.is("no paper -1", x.years(-1, 0), Due.BAD);
        Due.is("no paper 32", x.years(32, 0), Due.BAD);
        Due.is("what 3", x.years(0, 3), Due.BAD);
        Due.is("what -1", x.years(0, -1), Due.BAD);
        Due.lift(x, 0, 1, 2);
        Due.lift(x, 0, 2, 1);
        Due.is("a ring", x.years(0, 0), Due.STATE);
        Due.is("BAD ahead of STATE", x.years(3, 0), Due.BAD);
        Due.is("tenants by a ring", x.tenants(0), Due.STATE);
        Due.is("tenants BAD ahead of STATE", x.tenants(3), Due.BAD);
        Due.is("lacks by a ring", x.lacks(0, 0), Due.STATE);
        Due.is("never by a ring", x.lacks(0, 1), Due.STATE);
        Due.is("lacks BAD ahead of STATE", x.lacks(1, 0), Due.BAD);
        Due.is("cupboard by a ring", x.cupboard(0, 0), Due.STATE);
        Due.is("cupboard BAD ahead of STATE", x.cupboard(3, 0), Due.BAD);
        x.forget();
        years(x, 0, 1700, 1999);
    }

    private static void younger() {
        PaperedOver x = Due.standing("wall 1800 100 100;wall 1850 100 100;wall 1851 100 100;"
            + "paper stamp 1700 1850 0 1;paper plain 1700 1999 0 1;paper stamp 1700 1840 0 1;");
        Due.is("no spots", x.younger(2, 0), 0);
        Due.lift(x, 0, 1);
        Due.is("no years", x.younger(2, 0), 0);
        Due.lift(x, 0, 0, 1);
        Due.is("built behind its most", x.younger(2, 0), 1);
        Due.is("built in its most", x.younger(1, 0), 0);
        Due.is("the other way", x.younger(0, 2), 0);
        Due.is("a wall without spots", x.younger(2, 1), 0);
        Due.lift(x, 1, 1, 2);
        Due.is("through the one above the lowest", x.younger(2, 1), 1);
        Due.is("most of the lowest is 1839", x.years(1, 1), 1839);
        x.forget();
        x.forget();
        Due.lift(x, 0, 1, 0);
        Due.is("only the lowest counts, 1849", x.younger(1, 0), 1);
        Due.is("alike", x.younger(1, 1), Due.BAD);
        Due.is("wall 3", x.younger(3, 0), Due.BAD);
        Due.is("other wall 3", x.younger(0, 3), Due.BAD);
        Due.is("wall -1", x.younger(-1, 0), Due.BAD);
        Due.is("other wall -1", x.younger(0, -1), Due.BAD);
        Due.lift(x, 0, 0, 1);
        Due.is("a ring", x.younger(2, 0), Due.STATE);
        Due.is("BAD ahead of STATE", x.younger(2, 2), Due.BAD);
        Due.is("no house", new PaperedOver().younger(0, 1), Due.BAD);
        anySpot();
        onlyTheLowest();
    }

    private static void anySpot() {
        PaperedOver x = Due.standing("wall 1700 100 100;wall 1750 100 100;paper stamp 1700 1749 0 1;paper plain 1700 1999 0 1;");
        Due.lift(x, 0, 0);
        Due.is("the only spot", x.younger(1, 0), 1);
        Due.lift(x, 0, 1);
        Due.is("the first of two", x.younger(1, 0), 1);
        x.forget();
        x.forget();
        Due.lift(x, 0, 1);
        Due.lift(x, 0, 0);
        Due.is("the last of two", x.younger(1, 0), 1);
    }

    private static void onlyTheLowest() {
        // Were the upper one looked at, its 1750 would make wall 1 younger; it makes the lower one 1749, too.
        PaperedOver x = Due.standing("wall 1700 100 100;wall 1750 100 100;paper stamp 1700 1750 0 1;paper plain 1700 1999 0 1;");
        Due.lift(x, 0, 0, 1);
        Due.is("lowest 1750, built 1750", x.younger(1, 0), 0);
        Due.lift(x, 0, 1);
        Due.is("another spot tells no more", x.younger(1, 0), 0);
    }

    private static void lacks() {
        PaperedOver x = Due.standing(Due.plain(3, 10));
        Due.lift(x, 0, 0, 1, 2, 3, 4);
        Due.lift(x, 1, 0, 4);
        Due.lift(x, 2, 1, 3);
        Due.is("all between", x.lacks(1, 0), 1 << 1 | 1 << 2 | 1 << 3);
        Due.is("between two only", x.lacks(2, 0), 1 << 2);
        Due.is("nothing", x.lacks(0, 0), 0);
        Due.lift(x, 1, 2);
        Due.is("that one is there", x.lacks(1, 0), 1 << 1 | 1 << 3);
        Due.lift(x, 2, 4, 9);
        Due.is("never ahead of 0 nor unseen", x.lacks(1, 0), 1 << 1 | 1 << 3);
        Due.is("more through another", x.lacks(2, 0), 1 << 2);
        paperNought();
        Due.is("wall -1", x.lacks(-1, 0), Due.BAD);
        Due.is("wall 3", x.lacks(3, 0), Due.BAD);
        Due.is("what 2", x.lacks(0, 2), Due.BAD);
        Due.is("what -1", x.lacks(0, -1), Due.BAD);
        Due.is("no house", new PaperedOver().lacks(0, 0), Due.BAD);
    }

    private static void paperNought() {
        PaperedOver x = Due.standing(Due.plain(3, 3));
        Due.lift(x, 0, 1, 0, 2);
        Due.lift(x, 1, 1, 2);
        Due.is("0 is lacking", x.lacks(1, 0), 1);
        x.forget();
        x.forget();
        Due.lift(x, 0, 2, 1, 0);
        Due.lift(x, 2, 0);
        Due.lift(x, 2, 2);
        Due.is("0 is the uppermost", x.lacks(2, 0), 1 << 1);
        Due.is("no wall has it else", x.lacks(1, 0), 0);
        Due.is("0 behind the cupboard", x.cupboard(2, 0), 1702);
    }

    private static void never() {
        PaperedOver x = Due.standing("wall 1700 100 100;wall 1850 100 100;paper stamp 1700 1849 0 1;"
            + "paper stamp 1700 1850 0 1;paper plain 1700 1701 0 1;paper news 1700 1702 0 1;");
        Due.is("nothing is seen", x.lacks(1, 1), 0);
        Due.lift(x, 0, 0);
        Due.lift(x, 0, 1);
        Due.lift(x, 0, 2);
        Due.is("below its year only, seen only", x.lacks(1, 1), 1);
        Due.is("nothing below 1700", x.lacks(0, 1), 0);
        Due.lift(x, 1, 0);
        Due.is("on it, though it cannot be", x.lacks(1, 1), 0);
        Due.lift(x, 0, 2, 3);
        Due.is("through another", x.lacks(1, 1), 1 << 2 | 1 << 3);
    }

    private static void tenants() {
        PaperedOver x = Due.standing("wall 1800 100 100;paper stamp 1810 1820 50 1;paper plain 1700 1999 0 1;"
            + "tenant 1700 1809 99;tenant 1700 1810 50;tenant 1820 1999 50;tenant 1821 1999 99;"
            + "tenant 1815 1815 49;tenant 1812 1813 51;tenant 1700 1999 99;tenant 1700 1799 0;");
        Due.is("not seen", x.tenants(0), Due.BAD);
        Due.lift(x, 0, 0);
        Due.lift(x, 0, 1);
        Due.is("1810 to 1820 for 50", x.tenants(0), 1 << 1 | 1 << 2 | 1 << 5 | 1 << 6);
        Due.is("1800 on for nothing", x.tenants(1), 127);
        Due.is("no paper", x.tenants(2), Due.BAD);
        Due.is("no paper -1", x.tenants(-1), Due.BAD);
        Due.is("no house", new PaperedOver().tenants(0), Due.BAD);
        Due.house(x, "wall 1700 100 100;paper rest 1700 1700 0 1;" + "tenant 1700 1999 0;".repeat(10));
        Due.lift(x, 0, 0);
        Due.is("ten tenants", x.tenants(0), 1023);
    }

    private static void tenantsOfNoYear() {
        PaperedOver x = Due.standing("wall 1800 100 100;paper stamp 1700 1750 0 1;tenant 1700 1999 99;");
        Due.lift(x, 0, 0);
        Due.is("it cannot be", x.years(0, 2), 1);
        Due.is("there is no such year", x.tenants(0), 0);
    }

    private static void cupboard() {
        PaperedOver x = Due.standing("wall 1700 100 100;wall 1700 100 100;paper stamp 1800 1805 0 1;"
            + "paper stamp 1750 1760 0 1;paper stamp 1780 1790 0 1;paper stamp 1700 1999 0 1;paper stamp 1701 1998 0 1;");
        Due.lift(x, 0, 0);
        Due.is("nothing else", x.cupboard(0, 0), Due.NONE);
        Due.is("nothing else, to", x.cupboard(0, 1), Due.NONE);
        Due.lift(x, 0, 2, 0);
        Due.lift(x, 0, 1);
        Due.lift(x, 1, 3);
        Due.lift(x, 1, 3, 4);
        Due.is("from", x.cupboard(0, 0), 1750);
        Due.is("to", x.cupboard(0, 1), 1790);
        Due.is("from where two lie", x.cupboard(1, 0), 1750);
        Due.is("to where two lie", x.cupboard(1, 1), 1760);
        Due.is("from at the last", x.cupboard(2, 0), 1780);
        Due.is("to at the last", x.cupboard(2, 1), 1805);
        Due.is("on the other wall", x.cupboard(3, 0), 1701);
        Due.is("on the other wall, to", x.cupboard(3, 1), 1998);
        Due.is("all lie there", x.cupboard(4, 0), Due.NONE);
        Due.is("spot 5", x.cupboard(5, 0), Due.BAD);
        Due.is("spot -1", x.cupboard(-1, 0), Due.BAD);
        Due.is("what 2", x.cupboard(0, 2), Due.BAD);
        Due.is("what -1", x.cupboard(0, -1), Due.BAD);
        Due.is("no house", new PaperedOver().cupboard(0, 0), Due.BAD);
    }
}
