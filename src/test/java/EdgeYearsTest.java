import java.util.function.Supplier;

/** Boundaries of promises 18 to 22 (years, younger, lacks, tenants, cupboard), and of the years in part 3 of the Terms. */
public final class EdgeYearsTest {
    private static final int LEAST = Integer.MIN_VALUE, MOST = Integer.MAX_VALUE;

    public static void main(String[] args) {
        noRing();
        least();
        leastThroughOthers();
        most();
        mostThroughOthers();
        cannotBe();
        longestChain();
        youngerBelowBuilt();
        lacksBetween();
        neverBelowBuilt();
        tenantsMeans();
        tenantsYears();
        cupboardOthers();
        cupboardNone();
        years();
        yearsBad();
        yearsState();
        younger();
        youngerBad();
        youngerState();
        lacks();
        lacksBad();
        lacksState();
        tenants();
        tenantsBad();
        tenantsState();
        cupboard();
        cupboardBad();
        cupboardState();
        Due.end();
    }

    private static String wall(int built) {
        return "wall " + built + " 50 100;";
    }

    private static String paper(String sort, int made, int last) {
        return "paper " + sort + " " + made + " " + last + " 0 1;";
    }

    /** Each paper on a wall of its own spot. */
    private static PaperedOver each(String text, int papers) {
        PaperedOver x = Due.standing(text);
        for (int p = 0; p < papers; p++) Due.lift(x, 0, p);
        return x;
    }

    private static void noRing() {
        Edge.terms(3, 18, "YEARS of a SEEN PAPER (where there is no RING)");
        PaperedOver x = each(wall(1800) + paper("plain", 1700, 1700).repeat(4), 3);
        for (int p = 0; p <= 2; p++) Edge.due(x, 1800, "years", p, 0);
        Edge.due(x, Due.BAD, "years", 3, 0);
        Due.lift(x, 0, 1, 0);
        Edge.due(x, 1801, "years", 0, 0);
        Due.lift(x, 0, 0, 1);
        for (int p = 0; p <= 2; p++) Edge.due(x, Due.STATE, "years", p, 0);
        Edge.due(x, Due.BAD, "years", 3, 0);
    }

    private static void least() {
        Edge.terms(3, 18, "LEAST: MADE of it, or BUILT of a WALL that it is ON");
        for (int made : new int[] {1700, 1849, 1850, 1851, 1999}) {
            PaperedOver x = each(wall(1850) + wall(1999) + paper("plain", made, 1999), 1);
            Edge.due(x, Math.max(made, 1850), "years", 0, 0);
            Due.lift(x, 1, 0);
            Edge.due(x, 1999, "years", 0, 0);
        }
        // The greatest BUILT of all its walls counts, wherever that stands.
        PaperedOver x = each(wall(1801) + wall(1802) + wall(1800) + paper("plain", 1700, 1999), 1);
        Edge.due(x, 1801, "years", 0, 0);
        Due.lift(x, 2, 0);
        Edge.due(x, 1801, "years", 0, 0);
        Due.lift(x, 1, 0);
        Edge.due(x, 1802, "years", 0, 0);
    }

    private static void leastThroughOthers() {
        Edge.terms(3, 18, "or LEAST of one that comes AHEAD of it and 1, the greatest of all these.");
        for (int made : new int[] {1800, 1801, 1802}) {
            PaperedOver x = Due.standing(wall(1700) + paper("plain", 1800, 1999) + paper("plain", made, 1999));
            Due.lift(x, 0, 0, 1);
            Edge.due(x, 1800, "years", 0, 0);
            Edge.due(x, Math.max(made, 1801), "years", 1, 0);
        }
        PaperedOver x = Due.standing(wall(1700) + paper("plain", 1800, 1999) + paper("plain", 1801, 1999) + paper("plain", 1700, 1999));
        Due.lift(x, 0, 1, 2);
        Due.lift(x, 0, 0, 2);
        Edge.due(x, 1802, "years", 2, 0);
    }

    private static void most() {
        Edge.terms(3, 18, "MOST: 1999; LAST of it, if it is news or a stamp");
        for (int last : new int[] {1700, 1998, 1999}) {
            PaperedOver x = each(wall(1700) + paper("plain", 1700, last) + paper("news", 1700, last) + paper("stamp", 1700, last)
                + paper("paint", 1700, last) + paper("rest", 1700, last), 5);
            for (int p = 0; p < 5; p++) Edge.due(x, p == 1 || p == 2 ? last : 1999, "years", p, 1);
        }
    }

    private static void mostThroughOthers() {
        Edge.terms(3, 18, "MOST of one that it comes AHEAD of, less 1: the least of all these.");
        for (int last : new int[] {1848, 1849, 1850, 1999}) {
            PaperedOver x = Due.standing(wall(1700) + paper("news", 1700, last) + paper("stamp", 1700, 1850) + paper("plain", 1700, 1700));
            Due.lift(x, 0, 0, 1);
            Due.lift(x, 0, 0, 2);
            Edge.due(x, Math.min(last, 1849), "years", 0, 1);
            Edge.due(x, 1850, "years", 1, 1);
            Edge.due(x, 1999, "years", 2, 1);
        }
        PaperedOver x = Due.standing(wall(1700) + paper("plain", 1700, 1700).repeat(2));
        Due.lift(x, 0, 0, 1);
        Edge.due(x, 1998, "years", 0, 1);
    }

    private static void cannotBe() {
        Edge.terms(3, 18, "(LEAST above MOST: it CANNOT be.)");
        int[][] dues = {{1799, 0}, {1800, 0}, {1801, 1}, {1999, 1}};
        for (int[] due : dues) {
            PaperedOver x = each(wall(due[0]) + paper("stamp", 1700, 1800), 1);
            Edge.due(x, due[0], "years", 0, 0);
            Edge.due(x, 1800, "years", 0, 1);
            Edge.due(x, due[1], "years", 0, 2);
        }
        PaperedOver x = Due.standing(wall(1999) + paper("plain", 1700, 1700).repeat(2));
        Due.lift(x, 0, 0);
        Edge.due(x, 0, "years", 0, 2);
        Due.lift(x, 0, 0, 1);
        for (int p = 0; p <= 1; p++) Edge.due(x, 1, "years", p, 2);
    }

    private static void longestChain() {
        Edge.terms(3, 18, "the greatest of all these. MOST: 1999");
        PaperedOver x = Due.standing(wall(1999) + paper("plain", 1700, 1999).repeat(9) + paper("stamp", 1700, 1700));
        Due.lift(x, 0, 0, 1, 2, 3, 4, 5, 6, 7);
        Due.lift(x, 0, 7, 8, 9);
        for (int p = 0; p <= 9; p++) {
            Edge.due(x, 1999 + p, "years", p, 0);
            Edge.due(x, 1691 + p, "years", p, 1);
            Edge.due(x, 1, "years", p, 2);
            Edge.due(x, 0, "tenants", p);
        }
        Edge.due(x, 2007, "cupboard", 0, 0);
        Edge.due(x, 1700, "cupboard", 0, 1);
        Edge.due(x, 1999, "cupboard", 1, 0);
        Edge.due(x, 1697, "cupboard", 1, 1);
    }

    private static void youngerBelowBuilt() {
        Edge.terms(3, 19, "YOUNGER: a WALL is surely younger than another one, if MOST of a PAPER that lies lowest at a SPOT of the other one is below its BUILT.");
        int[][] dues = {{1849, 0}, {1850, 0}, {1851, 1}, {1999, 1}};
        for (int[] due : dues) {
            PaperedOver x = Due.standing(wall(1700) + wall(due[0]) + paper("stamp", 1700, 1850) + paper("plain", 1700, 1999));
            Edge.due(x, 0, "younger", 1, 0);
            Due.lift(x, 0, 1);
            Edge.due(x, 0, "younger", 1, 0);
            Due.lift(x, 0, 0, 1);
            Edge.due(x, due[1], "younger", 1, 0);
            Edge.due(x, 0, "younger", 0, 1);
        }
        // The upper one's MOST is 1850, but the lowest one's counts: 1849.
        PaperedOver x = Due.standing(wall(1700) + wall(1850) + wall(1849) + paper("stamp", 1700, 1850) + paper("plain", 1700, 1999));
        Due.lift(x, 0, 1, 0);
        Edge.due(x, 1, "younger", 1, 0);
        Edge.due(x, 0, "younger", 2, 0);
        // Nothing was lifted on wall 2.
        Edge.due(x, 0, "younger", 1, 2);
    }

    private static void lacksBetween() {
        Edge.terms(3, 20, "LACKS of a WALL: SEEN PAPERS that are not ON it, of which one is SURE ahead, and which are SURE ahead of another one, both ON it (scraped off there).");
        PaperedOver x = Due.standing(Due.plain(4, 10));
        Due.lift(x, 0, 0, 1, 2, 3, 4, 5, 6, 7);
        Due.lift(x, 0, 7, 8, 9);
        Due.lift(x, 1, 0);
        Edge.due(x, 0, "lacks", 1, 0);
        Due.lift(x, 1, 9);
        Edge.due(x, 1023 & ~(1 | 1 << 9), "lacks", 1, 0);
        Due.lift(x, 1, 5);
        Edge.due(x, 1023 & ~(1 | 1 << 5 | 1 << 9), "lacks", 1, 0);
        Due.lift(x, 2, 1, 2);
        Edge.due(x, 0, "lacks", 2, 0);
        Due.lift(x, 3, 7);
        Due.lift(x, 3, 9);
        Edge.due(x, 1 << 8, "lacks", 3, 0);
        Edge.due(x, 0, "lacks", 0, 0);
        lacksByFallingNumbers();
    }

    private static void lacksByFallingNumbers() {
        PaperedOver x = Due.standing(Due.plain(4, 10));
        Due.lift(x, 0, 9, 8, 7, 6, 5, 4, 3, 2);
        Due.lift(x, 0, 2, 0, 1);
        Due.lift(x, 1, 2, 1);
        Edge.due(x, 1, "lacks", 1, 0);
        Due.lift(x, 2, 9);
        Due.lift(x, 2, 0);
        Edge.due(x, 1023 & ~(1 | 1 << 1 | 1 << 9), "lacks", 2, 0);
        Edge.due(x, 0, "lacks", 3, 0);
        // What came behind all that is on a wall is not lacking there: 0 to 4.
        Due.lift(x, 3, 9);
        Due.lift(x, 3, 5);
        Edge.due(x, 1 << 6 | 1 << 7 | 1 << 8, "lacks", 3, 0);
        between(0, 5, 9, 3, 4, 2);
        between(3, 4, 2, 0, 5, 9);
        between(1, 0, 2, 9, 8, 7);
    }

    /** Two spots of three on wall 0; of each the lower and the upper one on wall 1. */
    private static void between(int... six) {
        PaperedOver x = Due.standing(Due.plain(2, 10));
        Due.lift(x, 0, six[0], six[1], six[2]);
        Due.lift(x, 0, six[3], six[4], six[5]);
        Due.lift(x, 1, six[0], six[2]);
        Edge.due(x, 1 << six[1], "lacks", 1, 0);
        Due.lift(x, 1, six[3], six[5]);
        Edge.due(x, 1 << six[1] | 1 << six[4], "lacks", 1, 0);
    }

    private static void neverBelowBuilt() {
        Edge.terms(3, 20, "NEVER: SEEN PAPERS that are not ON it, whose MOST is below BUILT of it.");
        String stamps = paper("stamp", 1700, 1849) + paper("stamp", 1700, 1850) + paper("stamp", 1700, 1851) + paper("stamp", 1700, 1700);
        PaperedOver x = each(wall(1700) + wall(1850) + stamps, 3);
        Edge.due(x, 0b001, "lacks", 1, 1);
        Edge.due(x, 0, "lacks", 0, 1);
        Due.lift(x, 1, 0);
        Edge.due(x, 0, "lacks", 1, 1);
        Edge.due(x, 3, "forget");
        Due.lift(x, 0, 3);
        Edge.due(x, 0b1001, "lacks", 1, 1);
        Edge.due(x, 0, "lacks", 0, 1);
    }

    private static void tenantsMeans() {
        Edge.terms(3, 21, "TENANTS of a PAPER (bits): who has MEANS of its PRICE or more");
        String means = "tenant 1700 1999 49;tenant 1700 1999 50;tenant 1700 1999 51;tenant 1700 1999 0;tenant 1700 1999 99;";
        PaperedOver x = each(wall(1700) + "paper plain 1700 1700 50 1;paper plain 1700 1700 0 1;paper plain 1700 1700 99 1;" + means, 3);
        Edge.due(x, 0b10110, "tenants", 0);
        Edge.due(x, 0b11111, "tenants", 1);
        Edge.due(x, 0b10000, "tenants", 2);
    }

    private static void tenantsYears() {
        Edge.terms(3, 21, "and was there in some year from LEAST to MOST.");
        String years = "tenant 1700 1799 0;tenant 1700 1800 0;tenant 1700 1801 0;tenant 1819 1999 0;tenant 1820 1999 0;"
            + "tenant 1821 1999 0;tenant 1810 1810 0;tenant 1700 1999 0;";
        PaperedOver x = each(wall(1800) + paper("stamp", 1700, 1820) + paper("plain", 1999, 1999) + years, 2);
        Edge.due(x, 0b11011110, "tenants", 0);
        Edge.due(x, 0b10111000, "tenants", 1);
        PaperedOver one = each(wall(1810) + paper("stamp", 1700, 1810) + paper("stamp", 1700, 1809) + years, 2);
        Edge.due(one, 0b11000000, "tenants", 0);
        Edge.due(one, 0, "tenants", 1);
    }

    private static void cupboardOthers() {
        Edge.terms(3, 22, "CUPBOARD at a SPOT: PAPERS ON its WALL that do not lie at it: from LEAST of these, the least, to MOST, the greatest");
        String stamps = paper("stamp", 1800, 1850) + paper("stamp", 1799, 1849) + paper("stamp", 1801, 1851) + paper("stamp", 1700, 1999);
        PaperedOver x = each(wall(1700) + wall(1700) + stamps, 3);
        Due.lift(x, 1, 3);
        int[][] dues = {{1799, 1851}, {1800, 1851}, {1799, 1850}};
        for (int s = 0; s <= 2; s++) {
            for (int what = 0; what <= 1; what++) Edge.due(x, dues[s][what], "cupboard", s, what);
        }
        Due.lift(x, 1, 0);
        Edge.due(x, 1800, "cupboard", 3, 0);
        Edge.due(x, 1850, "cupboard", 3, 1);
        Edge.due(x, 1700, "cupboard", 4, 0);
        Edge.due(x, 1999, "cupboard", 4, 1);
    }

    private static void cupboardNone() {
        Edge.terms(3, 22, "NONE: there are none such.");
        PaperedOver x = Due.standing(Due.plain(2, 10));
        Due.lift(x, 0, 0);
        Due.lift(x, 1, 1);
        for (int what = 0; what <= 1; what++) Edge.due(x, Due.NONE, "cupboard", 0, what);
        Due.lift(x, 0, 0);
        for (int what = 0; what <= 1; what++) Edge.due(x, Due.NONE, "cupboard", 0, what);
        Due.lift(x, 0, 0, 9);
        Edge.due(x, Due.NONE, "cupboard", 3, 0);
        Edge.due(x, 1701, "cupboard", 0, 0);
        Edge.due(x, 1999, "cupboard", 2, 1);
    }

    private static void years() {
        Edge.promise(18, "YEARS of a PAPER: LEAST (what = 0), MOST (1), whether it CANNOT be (2: 1, 0).");
        int[][] dues = {{1850, 1844, 1}, {1851, 1845, 1}, {1860, 1861, 0}, {1800, 1860, 0}, {1800, 1999, 0}};
        for (int p = 0; p <= 4; p++) {
            for (int what = 0; what <= 2; what++) Edge.still(Starts::lifted, dues[p][what], "years", p, what);
        }
    }

    /** Numbers that are no PAPER, or not SEEN (5): BAD, with a RING, too. */
    private static void notSeen(String call, long... behind) {
        for (int p : new int[] {LEAST, -1, 5, 6, 10, 32, MOST}) {
            long[] args = new long[behind.length + 1];
            args[0] = p;
            System.arraycopy(behind, 0, args, 1, behind.length);
            Edge.still(Starts::lifted, Due.BAD, call, args);
            Edge.still(Starts::ringed, Due.BAD, call, args);
        }
        Edge.still(Starts::bare, Due.BAD, call, behind.length == 0 ? new long[] {0} : new long[] {0, 0});
    }

    /** A second number that is not told: BAD, with a RING, too. */
    private static void badWhat(String call, int most) {
        for (int what : new int[] {LEAST, -1, most + 1, most + 2, MOST}) {
            Edge.still(Starts::lifted, Due.BAD, call, 0, what);
            Edge.still(Starts::ringed, Due.BAD, call, 0, what);
        }
    }

    private static void yearsBad() {
        Edge.promise(18, "BAD: not SEEN, too");
        notSeen("years", 0);
        badWhat("years", 2);
    }

    private static void yearsState() {
        Edge.promise(18, "STATE: there is a RING.");
        for (int what = 0; what <= 2; what++) {
            Edge.still(Starts::ringed, Due.STATE, "years", 0, what);
            Edge.still(Starts::ringed, Due.STATE, "years", 4, what);
        }
        PaperedOver x = Starts.ringed();
        x.forget();
        Edge.due(x, 1850, "years", 0, 0);
    }

    private static void younger() {
        Edge.promise(19, "YOUNGER: whether WALL a is (1, 0).");
        int[][] dues = {{0, 1, 0}, {0, 2, 0}, {1, 0, 1}, {1, 2, 0}, {2, 0, 0}, {2, 1, 0}};
        for (int[] due : dues) Edge.still(EdgeYearsTest::early, due[2], "younger", due[0], due[1]);
        PaperedOver x = Due.standing("wall 1701 50 100;".repeat(8) + paper("stamp", 1700, 1700));
        Due.lift(x, 7, 0);
        for (int a = 0; a <= 6; a++) Edge.due(x, 1, "younger", a, 7);
        for (int b = 0; b <= 6; b++) Edge.due(x, 0, "younger", 7, b);
    }

    /** A stamp of 1849 at the latest lies lowest on wall 0, as wall 1 of 1850 did not yet stand. */
    private static PaperedOver early() {
        PaperedOver x = Due.standing(wall(1800) + wall(1850) + wall(1849) + paper("stamp", 1700, 1849) + paper("plain", 1700, 1700));
        Due.lift(x, 0, 0, 1);
        Due.lift(x, 2, 1);
        x.as(0, 5);
        return x;
    }

    private static void youngerBad() {
        Edge.promise(19, "BAD: alike, too");
        for (int w = 0; w <= 2; w++) {
            Edge.still(Starts::lifted, Due.BAD, "younger", w, w);
            Edge.still(Starts::ringed, Due.BAD, "younger", w, w);
        }
        for (int w : new int[] {LEAST, -1, 3, 8, MOST}) {
            Edge.still(Starts::lifted, Due.BAD, "younger", w, 0);
            Edge.still(Starts::lifted, Due.BAD, "younger", 0, w);
            Edge.still(Starts::ringed, Due.BAD, "younger", 0, w);
        }
        Edge.still(Starts::lifted, 0, "younger", 0, 2);
        Edge.still(Starts::bare, Due.BAD, "younger", 0, 1);
    }

    private static void youngerState() {
        Edge.promise(19, "STATE: there is a RING.");
        Edge.still(Starts::ringed, Due.STATE, "younger", 0, 1);
        Edge.still(Starts::ringed, Due.STATE, "younger", 1, 0);
        Edge.still(Starts::lifted, 1, "younger", 1, 0);
    }

    private static void lacks() {
        Edge.promise(20, "LACKS of a WALL (what = 0), NEVER (1).");
        int[][] dues = {{0, 0}, {0b00010, 0b00010}, {0, 0}};
        for (int w = 0; w <= 2; w++) {
            for (int what = 0; what <= 1; what++) Edge.still(Starts::lifted, dues[w][what], "lacks", w, what);
        }
    }

    private static void lacksBad() {
        Edge.promise(20, "BAD");
        for (int w : new int[] {LEAST, -1, 3, 8, MOST}) {
            Edge.still(Starts::lifted, Due.BAD, "lacks", w, 0);
            Edge.still(Starts::ringed, Due.BAD, "lacks", w, 1);
        }
        badWhat("lacks", 1);
        Edge.still(Starts::bare, Due.BAD, "lacks", 0, 0);
    }

    private static void lacksState() {
        Edge.promise(20, "STATE: there is a RING.");
        for (int what = 0; what <= 1; what++) {
            Edge.still(Starts::ringed, Due.STATE, "lacks", 0, what);
            Edge.still(Starts::ringed, Due.STATE, "lacks", 2, what);
        }
    }

    private static void tenants() {
        Edge.promise(21, "TENANTS of a PAPER.");
        int[] dues = {0, 0, 0b10, 0b10, 0b11};
        for (int p = 0; p <= 4; p++) Edge.still(Starts::lifted, dues[p], "tenants", p);
        Edge.due(each(wall(1700) + paper("plain", 1700, 1700), 1), 0, "tenants", 0);
    }

    private static void tenantsBad() {
        Edge.promise(21, "BAD: not SEEN, too");
        notSeen("tenants");
    }

    private static void tenantsState() {
        Edge.promise(21, "STATE: there is a RING.");
        Edge.still(Starts::ringed, Due.STATE, "tenants", 0);
        Edge.still(Starts::ringed, Due.STATE, "tenants", 4);
    }

    private static void cupboard() {
        Edge.promise(22, "CUPBOARD at a SPOT: from (what = 0), to (1); NONE.");
        int[][] dues = {{1800, 1860}, {1850, 1845}, {Due.NONE, Due.NONE}, {Due.NONE, Due.NONE}};
        for (int s = 0; s <= 3; s++) {
            for (int what = 0; what <= 1; what++) Edge.still(Starts::lifted, dues[s][what], "cupboard", s, what);
        }
        Edge.still(Starts::full, 1850, "cupboard", 8, 0);
    }

    private static void cupboardBad() {
        Edge.promise(22, "BAD");
        for (int s : new int[] {LEAST, -1, 5, 8, 9, MOST}) {
            Edge.still(Starts::lifted, Due.BAD, "cupboard", s, 0);
            Edge.still(Starts::ringed, Due.BAD, "cupboard", s, 1);
        }
        Edge.still(Starts::lifted, Due.BAD, "cupboard", 4, 0);
        Edge.still(Starts::full, Due.BAD, "cupboard", 9, 0);
        badWhat("cupboard", 1);
        Edge.still(Starts::bare, Due.BAD, "cupboard", 0, 0);
        Supplier<PaperedOver> noSpots = () -> Due.standing(Due.plain(1, 1));
        Edge.still(noSpots, Due.BAD, "cupboard", 0, 0);
    }

    private static void cupboardState() {
        Edge.promise(22, "STATE: there is a RING.");
        for (int what = 0; what <= 1; what++) {
            Edge.still(Starts::ringed, Due.STATE, "cupboard", 0, what);
            Edge.still(Starts::ringed, Due.STATE, "cupboard", 4, what);
        }
    }
}
