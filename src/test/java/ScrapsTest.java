/** Promises 23 to 25: scrap, tells, rolls. */
public final class ScrapsTest {
    public static void main(String[] args) {
        scrap();
        tells();
        rolls();
        paint();
        rollsRefused();
        Due.end();
    }

    /** Papers of one sort with told repeats. */
    private static PaperedOver repeats(String sort, int... repeats) {
        StringBuilder text = new StringBuilder("wall 1700 100 100;");
        for (int r : repeats) text.append("paper ").append(sort).append(" 1700 1700 0 ").append(r).append(";");
        return Due.standing(text.toString());
    }

    private static void scrap() {
        PaperedOver none = new PaperedOver();
        Due.is("no house", none.scrap(0, 0), Due.STATE);
        Due.is("STATE ahead of BAD", none.scrap(-1, 0), Due.STATE);
        PaperedOver x = Due.standing("wall 1700 100 100;paper plain 1700 1700 0 1;paper news 1700 1700 0 6;"
            + "paper stamp 1700 1700 0 4;paper paint 1700 1700 0 1;paper rest 1700 1700 0 99;");
        Due.is("0 apart: all but paint", x.scrap(7, 7), 0b10111);
        Due.is("1 apart", x.scrap(0, 1), 0b00001);
        Due.is("6 apart", x.scrap(10, 4), 0b00011);
        Due.is("4 apart", x.scrap(4, 8), 0b00101);
        Due.is("12 apart", x.scrap(400, 388), 0b00111);
        Due.is("396 apart", x.scrap(0, 396), 0b10111);
        Due.is("400 apart", x.scrap(400, 0), 0b00101);
        Due.is("400 apart, the other way", x.scrap(0, 400), 0b00101);
        Due.is("not even paper 0", repeats("plain", 7, 5).scrap(0, 5), 0b10);
        Due.is("h -1", x.scrap(-1, 0), Due.BAD);
        Due.is("k -1", x.scrap(0, -1), Due.BAD);
        Due.is("h 401", x.scrap(401, 0), Due.BAD);
        Due.is("k 401", x.scrap(0, 401), Due.BAD);
    }

    private static void tells() {
        PaperedOver none = new PaperedOver();
        Due.is("no house", none.tells(0), Due.STATE);
        Due.is("STATE ahead of BAD", none.tells(-1), Due.STATE);
        PaperedOver x = repeats("plain", 12, 24, 48, 7, 12);
        Due.is("none told", x.tells(0), 1);
        Due.is("one told", x.tells(8), 1);
        Due.is("12 and 24", x.tells(3), 5);
        Due.is("24 and 48", x.tells(6), 5);
        Due.is("12 and 7", x.tells(9), 2);
        Due.is("12 and 12", x.tells(17), Due.NONE);
        Due.is("12, 24 and 48", x.tells(7), 5);
        Due.is("12, 24, 48 and 7", x.tells(15), 7);
        Due.is("all five", x.tells(31), Due.NONE);
        Due.is("one more than there are", x.tells(32), Due.BAD);
        Due.is("too many", x.tells(33), Due.BAD);
        Due.is("-1", x.tells(-1), Due.BAD);
        Due.is("least", x.tells(Integer.MIN_VALUE), Due.BAD);
        Due.is("most", x.tells(Integer.MAX_VALUE), Due.BAD);
        // 60 + 1 .. 99: a pair that is apart by 60 is alike by each length that goes into 60.
        Due.is("61 and 1", repeats("news", 61, 1).tells(3), 7);
        Due.is("paint counts, too", repeats("paint", 5, 6).tells(3), 2);
        Due.is("ten", repeats("rest", 1, 2, 3, 4, 5, 6, 7, 8, 9, 10).tells(1023), 10);
        Due.is("ten, wide", repeats("rest", 99, 98, 97, 96, 95, 94, 93, 92, 91, 2).tells(1023), 11);
    }

    private static void three(PaperedOver x, int paper, int walls, int strips, int rolls, int left) {
        Due.is("strips of " + paper + " for " + walls, x.rolls(paper, walls, 0), strips);
        Due.is("rolls of " + paper + " for " + walls, x.rolls(paper, walls, 1), rolls);
        Due.is("left of " + paper + " for " + walls, x.rolls(paper, walls, 2), left);
    }

    private static void rolls() {
        PaperedOver x = Due.standing("wall 1700 50 100;wall 1700 51 250;wall 1700 999 400;wall 1700 150 333;"
            + "paper plain 1700 1700 0 1;paper stamp 1700 1700 0 99;paper rest 1700 1700 0 50;paper news 1700 1700 0 60;");
        three(x, 0, 0, 0, 0, 0);
        three(x, 0, 1, 1, 1, 900);
        three(x, 0, 2, 2, 1, 500);
        three(x, 0, 4, 20, 10, 200);
        three(x, 0, 8, 3, 1, 1);
        three(x, 0, 3, 3, 1, 400);
        // 100, 250, 250; then 400 just fits, 19 more are cut by twos.
        three(x, 0, 7, 23, 11, 600);
        // 250, 250, 333; of the next roll 333 twice.
        three(x, 0, 10, 5, 2, 334);
        // 99 goes into 198, 297, 495, 396.
        three(x, 1, 1, 1, 1, 802);
        three(x, 1, 2, 2, 1, 406);
        three(x, 1, 4, 20, 10, 10);
        three(x, 1, 8, 3, 2, 604);
        three(x, 2, 2, 2, 1, 500);
        three(x, 2, 8, 3, 2, 650);
        three(x, 3, 1, 1, 1, 880);
        three(x, 3, 2, 2, 1, 400);
        three(x, 3, 4, 20, 10, 160);
        wallByWall();
    }

    private static void wallByWall() {
        PaperedOver x = Due.standing("wall 1700 50 400;wall 1700 100 100;wall 1700 50 400;wall 1700 50 300;paper plain 1700 1700 0 1;");
        three(x, 0, 15, 5, 2, 700);
        three(x, 0, 13, 3, 2, 700);
        three(x, 0, 6, 3, 1, 400);
    }

    private static void paint() {
        PaperedOver x = Due.standing("wall 1700 500 100;wall 1700 250 400;wall 1700 251 100;wall 1700 50 100;paper paint 1700 1700 0 99;");
        three(x, 0, 0, 0, 0, 0);
        three(x, 0, 1, 0, 1, 0);
        three(x, 0, 6, 0, 2, 0);
        three(x, 0, 7, 0, 3, 0);
        three(x, 0, 8, 0, 1, 0);
        three(x, 0, 10, 0, 1, 0);
        three(x, 0, 15, 0, 3, 0);
    }

    private static void rollsRefused() {
        Due.is("no house", new PaperedOver().rolls(0, 0, 0), Due.BAD);
        PaperedOver x = Due.standing(Due.plain(2, 2));
        Due.is("paper 2", x.rolls(2, 1, 0), Due.BAD);
        Due.is("paper -1", x.rolls(-1, 1, 0), Due.BAD);
        Due.is("walls 4", x.rolls(0, 4, 0), Due.BAD);
        Due.is("walls -1", x.rolls(0, -1, 0), Due.BAD);
        Due.is("what 3", x.rolls(0, 3, 3), Due.BAD);
        Due.is("what -1", x.rolls(0, 3, -1), Due.BAD);
        Due.is("all walls", x.rolls(1, 3, 0), 4);
        Due.house(x, Due.plain(8, 1));
        Due.is("eight walls", x.rolls(0, 255, 0), 16);
        Due.is("nine walls", x.rolls(0, 256, 0), Due.BAD);
    }
}
