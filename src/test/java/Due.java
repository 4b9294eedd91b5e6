/** What the project's tests share: an object, the answers that are due, and texts for the tape. */
final class Due {
    static final int NULL = -1000011, PLACE = -1000012, KIND = -1000013, SIZE = -1000014, STORE = -1000015;
    static final int NONE = PaperedOver.NONE, BAD = PaperedOver.BAD;
    static final int STATE = PaperedOver.STATE, FULL = PaperedOver.FULL;

    private static int wrong = 0;
    private static int looked = 0;

    private Due() {
    }

    static void is(String what, long got, long want) {
        looked++;
        if (got == want) return;
        wrong++;
        System.out.println(what + " answered " + got + ", due is " + want);
    }

    /** Ends the test: exit code 1 if one answer was not due. */
    static void end() {
        System.out.println(looked + " answers, " + wrong + " not as due");
        if (wrong != 0 || looked == 0) System.exit(1);
    }

    /** Feeds a text, eight bytes at a time: how many the tape has. */
    static int feed(PaperedOver x, String text) {
        int has = x.count(5);
        for (int i = 0; i < text.length(); i += 8) {
            int n = Math.min(8, text.length() - i);
            long w = 0;
            for (int k = 0; k < n; k++) w = w << 8 | text.charAt(i + k);
            has = x.feed(w, n);
        }
        return has;
    }

    static int house(PaperedOver x, String text) {
        feed(x, text);
        return x.house();
    }

    /** A new object in which a house stands. */
    static PaperedOver standing(String text) {
        PaperedOver x = new PaperedOver();
        int walls = house(x, text);
        if (walls < 1) is("house of a test's own text", walls, 1);
        return x;
    }

    /** Lifts papers on a wall by way of ROW 7. */
    static int lift(PaperedOver x, int wall, int... papers) {
        x.row(7, 2, papers.length);
        for (int i = 0; i < papers.length; i++) x.set(7, i, papers[i]);
        return x.lift(wall, 7, 0, papers.length);
    }

    /** Papers without years or prices that matter, as many as told. */
    static String plain(int walls, int papers) {
        return "wall 1700 100 100;".repeat(walls) + "paper plain 1700 1999 0 1;".repeat(papers);
    }
}
