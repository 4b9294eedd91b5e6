/** Promises 6 to 8: feed, house, fault. */
public final class ReadingTest {
    private static final String WALL = "wall 1800 100 200;";
    private static final String PAPER = "paper plain 1700 1999 0 1;";
    private static final String TENANT = "tenant 1700 1999 0;";

    public static void main(String[] args) {
        feed();
        read();
        blanks();
        misplaced();
        ends();
        numbers();
        tooMany();
        afterwards();
        Due.end();
    }

    private static void feed() {
        PaperedOver x = new PaperedOver();
        Due.is("n 0", x.feed(0, 0), Due.BAD);
        Due.is("n 9", x.feed(0, 9), Due.BAD);
        Due.is("n -1", x.feed(0, -1), Due.BAD);
        Due.is("none came", x.count(5), 0);
        Due.is("one", x.feed(0x3b, 1), 1);
        Due.is("eight", x.feed(0x2020202020202020L, 8), 9);
        Due.is("on the tape", x.count(5), 9);
        for (int i = 0; i < 61; i++) x.feed(0x2020202020202020L, 8);
        Due.is("497", x.count(5), 497);
        Due.is("four more than fit", x.feed(0, 4), Due.FULL);
        Due.is("BAD ahead of FULL", x.feed(0, 9), Due.BAD);
        Due.is("none of them came", x.count(5), 497);
        Due.is("three that fit", x.feed(0, 3), 500);
        Due.is("one more", x.feed(0, 1), Due.FULL);
        Due.is("read", x.house(), -1000100);
        Due.is("empty then", x.count(5), 0);
        lowestBytes();
    }

    private static void lowestBytes() {
        PaperedOver x = new PaperedOver();
        // Only the lowest n bytes count, the highest of them first: "wal", then "l".
        x.feed(0x7171717171_77616cL, 3);
        x.feed(0x3b3b3b3b3b3b3b_6cL, 1);
        Due.is("wall of odd words", Due.house(x, " 1800 100 200;"), 1);
    }

    private static void read() {
        PaperedOver x = new PaperedOver();
        String text = "wall 1850 999 400;wall 1700 50 100;paper news 1840 1841 99 99;paper rest 1700 1700 0 1;"
            + "paper stamp 1999 1999 7 8;paper paint 1701 1998 1 2;paper plain 1800 1800 3 4;tenant 1700 1700 0;"
            + "tenant 1800 1999 99;tenant 1900 1950 5;";
        Due.is("walls", Due.house(x, text), 2);
        Due.is("walls counted", x.count(1), 2);
        Due.is("papers counted", x.count(2), 5);
        Due.is("tenants counted", x.count(3), 3);
        Due.is("no fault", x.fault(), 0);
        int[][] papers = {{1840, 1841, 99, 99}, {1700, 1700, 0, 1}, {1999, 1999, 7, 8}, {1701, 1998, 1, 2}, {1800, 1800, 3, 4}};
        for (int p = 0; p < 5; p++) {
            for (int what = 0; what < 4; what++) Due.is("paper " + p + " " + what, x.paper(p, what), papers[p][what]);
        }
        Due.is("walls alone", Due.house(x, WALL), 1);
        Due.is("no papers now", x.count(2), 0);
        Due.is("no tenants now", x.count(3), 0);
        Due.is("walls and tenants", Due.house(x, WALL + TENANT), 1);
        Due.is("tenants now", x.count(3), 1);
        Due.is("8 walls", Due.house(x, WALL.repeat(8)), 8);
        Due.is("10 papers", Due.house(x, WALL + PAPER.repeat(10) + TENANT.repeat(10)), 1);
        Due.is("all 10 papers", x.count(2), 10);
        Due.is("all 10 tenants", x.count(3), 10);
    }

    private static void blanks() {
        PaperedOver x = new PaperedOver();
        Due.is("blanks all over", Due.house(x, "\n  wall\n\n1800  100\n200 \n ;\n "), 1);
        Due.is("as few blanks as can be", Due.house(x, "wall1800 100 200;paper rest1700 1700 0 1;tenant1700 1700 0;"), 1);
        Due.is("its paper", x.count(2), 1);
        Due.is("its tenant", x.count(3), 1);
        Due.is("leading noughts", Due.house(x, "wall 1800 0100 0200;paper plain 1800 1800 0000 0009;"), 1);
        Due.is("worth 9", x.paper(0, 3), 9);
        fault(x, "wall\t1800 100 200;", 4, 1);
        fault(x, "wall 1800\r100 200;", 9, 1);
    }

    private static void fault(PaperedOver x, String text, int place, int number) {
        Due.is("house of '" + text + "'", Due.house(x, text), -1000100 - place);
        Due.is("fault of '" + text + "'", x.fault(), number);
    }

    private static void misplaced() {
        PaperedOver x = new PaperedOver();
        fault(x, PAPER, 0, 1);
        fault(x, TENANT, 0, 1);
        fault(x, "  ;", 2, 1);
        fault(x, "1800", 0, 1);
        fault(x, "Wall 1800 100 200;", 0, 1);
        fault(x, "walls 1800 100 200;", 0, 1);
        fault(x, "wal 1800 100 200;", 0, 1);
        fault(x, "ball 1800 100 200;", 0, 1);
        fault(x, "walk 1800 100 200;", 0, 1);
        fault(x, "wallz 1800 100 200;", 0, 1);
        fault(x, "walla 1800 100 200;", 0, 1);
        fault(x, "wall` 1800 100 200;", 4, 1);
        fault(x, "wall{ 1800 100 200;", 4, 1);
        fault(x, "wall 1800:100 200;", 9, 1);
        fault(x, "wall 1800/100 200;", 9, 1);
        fault(x, "wall wall 100 200;", 5, 1);
        fault(x, "wall ; 100 200;", 5, 1);
        fault(x, "wall -800 100 200;", 5, 1);
        fault(x, "wall 18000 100 200;", 5, 1);
        fault(x, "wall 00001800 100 200;", 5, 1);
        fault(x, "wall 1800 100 200 ,", 18, 1);
        fault(x, "wall 1800 100 200 300;", 18, 1);
        fault(x, "wall 1800 100 200 30000;", 18, 1);
        fault(x, WALL + ";", 18, 1);
        fault(x, WALL + "12", 18, 1);
        fault(x, WALL + (char) 200, 18, 1);
        fault(x, WALL + (char) 0, 18, 1);
        fault(x, WALL + "wallpaper", 18, 1);
        fault(x, WALL + "paper wood 1700 1700 0 1;", 24, 1);
        fault(x, WALL + "paper 1700 1700 0 1;", 24, 1);
        fault(x, WALL + "paper plains1700 1700 0 1;", 24, 1);
        fault(x, WALL + "paperplain 1700 1700 0 1;", 18, 1);
        fault(x, WALL + PAPER + WALL, 44, 1);
        fault(x, WALL + TENANT + PAPER, 37, 1);
        fault(x, WALL + TENANT + WALL, 37, 1);
        fault(x, WALL + "plain", 18, 1);
    }

    private static void ends() {
        PaperedOver x = new PaperedOver();
        fault(x, "", 0, 1);
        fault(x, " \n ", 3, 1);
        fault(x, "wall ", 5, 1);
        fault(x, "wall 1800", 9, 1);
        fault(x, "wall 1800 100 200", 17, 1);
        fault(x, "wall 1800 100 200\n\n", 19, 1);
        fault(x, WALL + "paper", 23, 1);
        fault(x, WALL + "paper news ", 29, 1);
        fault(x, WALL + "tenant 1700 1700", 34, 1);
    }

    private static void numbers() {
        PaperedOver x = new PaperedOver();
        fault(x, "wall 1699 100 200;", 5, 2);
        fault(x, "wall 2000 100 200;", 5, 2);
        fault(x, "wall 1800 49 200;", 10, 2);
        fault(x, "wall 1800 1000 200;", 10, 2);
        fault(x, "wall 1800 100 99;", 14, 2);
        fault(x, "wall 1800 100 401;", 14, 2);
        String p = WALL + "paper news ";
        fault(x, p + "1699 1700 0 1;", 29, 2);
        fault(x, p + "2000 2000 0 1;", 29, 2);
        fault(x, p + "1800 1799 0 1;", 34, 2);
        fault(x, p + "1800 2000 0 1;", 34, 2);
        fault(x, p + "1800 1800 100 1;", 39, 2);
        fault(x, p + "1800 1800 0 0;", 41, 2);
        fault(x, p + "1800 1800 0 100;", 41, 2);
        String t = WALL + "tenant ";
        fault(x, t + "1699 1700 0;", 25, 2);
        fault(x, t + "2000 2000 0;", 25, 2);
        fault(x, t + "1800 1799 0;", 30, 2);
        fault(x, t + "1800 2000 0;", 30, 2);
        fault(x, t + "1800 1800 100;", 35, 2);
        fault(x, "wall 9 oops", 5, 2);
        fault(x, "wall 1800 oops 9", 10, 1);
    }

    private static void tooMany() {
        PaperedOver x = new PaperedOver();
        fault(x, WALL.repeat(8) + "wall", 144, 3);
        fault(x, WALL.repeat(8) + " " + WALL, 145, 3);
        fault(x, WALL.repeat(8) + PAPER + WALL, 170, 1);
        fault(x, WALL + PAPER.repeat(10) + "paper!", 278, 3);
        fault(x, WALL + PAPER.repeat(10) + TENANT + PAPER, 297, 1);
        fault(x, WALL + TENANT.repeat(10) + "tenant", 208, 3);
        fault(x, WALL.repeat(8) + "walls", 144, 1);
    }

    private static void afterwards() {
        PaperedOver x = Due.standing(WALL + PAPER.repeat(2));
        Due.lift(x, 0, 1, 0);
        x.image(0);
        x.ask(0, 1);
        fault(x, "wall 1", 5, 2);
        Due.is("the tape is empty", x.count(5), 0);
        Due.is("the house stays", x.count(2), 2);
        Due.is("its spots stay", x.spot(0, 0), 1);
        Due.is("what follows stays", x.papers(10), 2);
        Due.is("a house", Due.house(x, WALL.repeat(2) + PAPER), 2);
        Due.is("the latest fault stays", x.fault(), 2);
        Due.is("in place of the one before", x.count(2), 1);
        Due.is("nothing is lifted", x.count(4), 0);
        Due.is("no spot", x.spot(0, 0), Due.BAD);
        Due.is("nothing is seen", x.papers(0), 0);
        Due.is("nothing is sure", x.papers(10), 0);
        Due.is("rows stay", x.count(0), 1);
        Due.is("their items, too", x.copy(7, 0, 7, 0, 2), 2);
        Due.is("the trace, too", x.trace(0), 21);
        Due.is("images stay", x.restore(0), 1);
        Due.is("as kept", x.spot(0, 0), 1);
        fault(x, "", 0, 1);
    }
}
