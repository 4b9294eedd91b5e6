/** Boundaries of the TEXTS and FAULTS in part 1 of the Terms. */
public final class EdgeTextTest {
    private static final String WALL = "wall 1800 100 200;";
    private static final String PAPER = "paper plain 1700 1999 0 1;";
    private static final String TENANT = "tenant 1700 1999 0;";
    private static final String END = "";

    public static void main(String[] args) {
        tapeSize();
        names();
        figures();
        signs();
        blanks();
        howMany();
        wall();
        built();
        wide();
        high();
        walls();
        paper();
        sorts();
        made();
        price();
        repeat();
        papers();
        tenant();
        fromTo();
        means();
        tenants();
        inPlace();
        whatStays();
        firstToken();
        cannotStand();
        runOfFigures();
        theEnd();
        notAsTold();
        moreThanRoom();
        Due.end();
    }

    /** A new object that has read a text, which has no FAULT. */
    private static PaperedOver read(String text, int walls) {
        PaperedOver x = new PaperedOver();
        Edge.is("house of '" + text + "'", Due.house(x, text), walls);
        Edge.is("no fault of '" + text + "'", x.fault(), 0);
        return x;
    }

    private static void fault(String text, int place, int number) {
        PaperedOver x = new PaperedOver();
        Edge.is("house of '" + text + "'", Due.house(x, text), -1000100 - place);
        Edge.is("fault of '" + text + "'", x.fault(), number);
        Edge.is("no house of '" + text + "'", x.count(1), 0);
    }

    /** A NUMBER between two texts: from least to most it is as told, beyond these it is a FAULT at its first byte. */
    private static void bounds(String ahead, int least, int most, String behind) {
        for (int v : new int[] {least, least + 1, most - 1, most}) read(ahead + v + behind, 1);
        for (int v : new int[] {least - 1, most + 1, 9999}) {
            // Nothing tells a number below 0: the sign ahead of its figures is no TOKEN.
            fault(ahead + v + behind, ahead.length(), v < 0 ? 1 : 2);
        }
        if (least > 0) fault(ahead + "0" + behind, ahead.length(), 2);
    }

    private static void tapeSize() {
        Edge.terms(1, 6, "TEXTS: THE TAPE has at most 500 bytes");
        for (int bytes : new int[] {499, 500}) {
            PaperedOver x = new PaperedOver();
            Edge.is("fed", Due.feed(x, " ".repeat(bytes - WALL.length()) + WALL), bytes);
            Edge.due(x, bytes, "count", 5);
            Edge.due(x, 1, "house");
        }
        PaperedOver x = new PaperedOver();
        Due.feed(x, " ".repeat(500));
        Edge.due(x, Due.FULL, "feed", 32, 1);
        Edge.due(x, 500, "count", 5);
    }

    /** What a byte is behind a name: a blank parts, a letter joins, a figure begins a NUMBER, others are no TOKEN. */
    private static void names() {
        Edge.terms(1, 7, "TOKENS: NAMES (letters a to z)");
        for (int b = 0; b <= 255; b++) {
            String text = "wall" + (char) b + "1800 100 200;";
            if (b == ' ' || b == '\n') read(text, 1);
            else if (b >= 'a' && b <= 'z') fault(text, 0, 1);
            else fault(text, 4, 1);
        }
    }

    private static void figures() {
        Edge.terms(1, 7, "NUMBERS (figures, 4 at most)");
        for (int b = 0; b <= 255; b++) {
            String text = "wall 1800 10" + (char) b + " 200;";
            if (b == ' ' || b == '\n') fault(text, 10, 2);
            else if (b >= '0' && b <= '9') read(text, 1);
            else fault(text, 10, 2);
        }
        for (int noughts = 0; noughts <= 3; noughts++) {
            String told = "0".repeat(noughts) + "7";
            PaperedOver x = read(WALL + "paper plain 1700 1700 " + told + " 1;", 1);
            Edge.due(x, 7, "paper", 0, 2);
        }
        fault(WALL + "paper plain 1700 1700 00007 1;", WALL.length() + 22, 1);
        fault(WALL + "paper plain 1700 1700 000007 1;", WALL.length() + 22, 1);
    }

    private static void signs() {
        Edge.terms(1, 7, "SIGNS ;");
        for (int b = 0; b <= 255; b++) {
            String text = "wall 1800 100 200 " + (char) b;
            if (b == ';') read(text, 1);
            else if (b == ' ' || b == '\n') fault(text, 19, 1);
            else fault(text, 18, 1);
        }
    }

    private static void blanks() {
        Edge.terms(1, 7, "bytes 32 and 10 ahead of, between, behind these, as many as wanted (none is needed where one ends without)");
        String[] tokens = {"wall", "1800", "100", "200", ";"};
        for (String blank : new String[] {" ", "\n", "  ", "\n ", " \n\n", " ".repeat(79), "\n".repeat(80)}) {
            read(blank + String.join(blank, tokens) + blank, 1);
        }
        read("wall1800 100 200;paper plain1700 1700 0 1;tenant1700 1700 0;", 1);
        fault("wall18 00 100 200;", 4, 2);
        fault("wall1800100 200;", 4, 1);
        fault("wall1800 100 200;paperplain1700 1700 0 1;", 17, 1);
        for (int b : new int[] {9, 11, 13, 31, 33, 0, 160}) {
            fault((char) b + WALL, 0, 1);
            fault(WALL + (char) b, 18, 1);
        }
    }

    private static void howMany() {
        Edge.terms(1, 7, "house: wall { wall } { paper } { tenant }.");
        fault("", 0, 1);
        fault(PAPER, 0, 1);
        fault(TENANT, 0, 1);
        counted(WALL, 1, 0, 0);
        counted(WALL + WALL, 2, 0, 0);
        counted(WALL + PAPER, 1, 1, 0);
        counted(WALL + TENANT, 1, 0, 1);
        counted(WALL + WALL + PAPER + PAPER + TENANT + TENANT, 2, 2, 2);
        fault(WALL + PAPER + WALL, 44, 1);
        fault(WALL + TENANT + WALL, 37, 1);
        fault(WALL + TENANT + PAPER, 37, 1);
    }

    private static void counted(String text, int walls, int papers, int tenants) {
        PaperedOver x = read(text, walls);
        Edge.due(x, walls, "count", 1);
        Edge.due(x, papers, "count", 2);
        Edge.due(x, tenants, "count", 3);
    }

    private static void wall() {
        Edge.terms(1, 7, "wall: 'wall' BUILT WIDE HIGH ';'");
        read(WALL, 1);
        fault("wall 1800 100;", 13, 1);
        fault("wall 1800 100 200 1;", 18, 1);
        fault("wall 1800 100 200", 17, 1);
        nearly("", "wall", " 1800 100 200;");
    }

    /** A word with a letter too few, one too many, or another one at each place: no such NAME is known. */
    private static void nearly(String ahead, String word, String behind) {
        read(ahead + word + behind, 1);
        fault(ahead + word.substring(1) + behind, ahead.length(), 1);
        fault(ahead + word.substring(0, word.length() - 1) + behind, ahead.length(), 1);
        for (char letter : new char[] {'a', 'z', 's'}) {
            fault(ahead + word + letter + behind, ahead.length(), 1);
            fault(ahead + letter + word + behind, ahead.length(), 1);
        }
        for (int i = 0; i < word.length(); i++) {
            String other = word.substring(0, i) + (char) (word.charAt(i) + 1) + word.substring(i + 1);
            fault(ahead + other + behind, ahead.length(), 1);
        }
    }

    private static void built() {
        Edge.terms(1, 7, "a year 1700 to 1999");
        bounds("wall ", 1700, 1999, " 100 200;");
        for (int year : new int[] {1700, 1701, 1998, 1999}) {
            PaperedOver x = read("wall " + year + " 100 200;" + PAPER, 1);
            Due.lift(x, 0, 0);
            Edge.due(x, year, "years", 0, 0);
        }
    }

    private static void wide() {
        Edge.terms(1, 7, "50 to 999");
        bounds("wall 1800 ", 50, 999, " 200;");
        Edge.due(read("wall 1800 50 200;" + PAPER, 1), 1, "rolls", 0, 1, 0);
        Edge.due(read("wall 1800 51 200;" + PAPER, 1), 2, "rolls", 0, 1, 0);
        Edge.due(read("wall 1800 999 200;" + PAPER, 1), 20, "rolls", 0, 1, 0);
    }

    private static void high() {
        Edge.terms(1, 7, "100 to 400");
        bounds("wall 1800 50 ", 100, 400, ";");
        for (int high : new int[] {100, 101, 399, 400}) {
            Edge.due(read("wall 1800 50 " + high + ";" + PAPER, 1), 1000 - high, "rolls", 0, 1, 2);
        }
    }

    private static void walls() {
        Edge.terms(1, 7, "WALLS 0 .. 7, 8 at most");
        for (int walls = 7; walls <= 8; walls++) {
            PaperedOver x = read(WALL.repeat(walls), walls);
            Edge.due(x, Due.BAD, "lacks", -1, 0);
            Edge.due(x, 0, "lacks", 0, 0);
            Edge.due(x, 0, "lacks", walls - 1, 0);
            Edge.due(x, Due.BAD, "lacks", walls, 0);
        }
        fault(WALL.repeat(9), 8 * 18, 3);
    }

    private static void paper() {
        Edge.terms(1, 7, "paper: 'paper' SORT MADE LAST PRICE REPEAT ';'");
        PaperedOver x = read(WALL + "paper news 1700 1999 99 1;", 1);
        int[] told = {1700, 1999, 99, 1};
        for (int what = 0; what <= 3; what++) Edge.due(x, told[what], "paper", 0, what);
        fault(WALL + "paper 1700 1999 99 1;", 24, 1);
        fault(WALL + "paper news 1700 1999 99;", 41, 1);
        fault(WALL + "paper news 1700 1999 99 1 1;", 44, 1);
        nearly(WALL, "paper", " news 1700 1999 99 1;");
    }

    private static void sorts() {
        Edge.terms(1, 7, "(SORT: 'plain' | 'news' | 'stamp' | 'paint' | 'rest'");
        String[] sorts = {"plain", "stamp", "news", "rest", "paint"};
        for (int k = 0; k < 5; k++) {
            Edge.due(read(WALL + "paper " + sorts[k] + " 1700 1700 0 1;", 1), k + 1, "kind", 0);
            nearly(WALL + "paper ", sorts[k], " 1700 1700 0 1;");
        }
        for (String other : new String[] {"dated", "paper", "wall"}) fault(WALL + "paper " + other + " 1700 1700 0 1;", 24, 1);
    }

    private static void made() {
        Edge.terms(1, 7, "years 1700 to 1999, LAST no less; 0");
        bounds(WALL + "paper rest ", 1700, 1999, " 1999 0 1;");
        bounds(WALL + "paper rest 1700 ", 1700, 1999, " 0 1;");
        for (int made : new int[] {1701, 1800, 1998}) {
            fault(WALL + "paper rest " + made + " " + (made - 1) + " 0 1;", 34, 2);
            Edge.due(read(WALL + "paper rest " + made + " " + made + " 0 1;", 1), made, "paper", 0, 1);
            Edge.due(read(WALL + "paper rest " + made + " " + (made + 1) + " 0 1;", 1), made + 1, "paper", 0, 1);
        }
        fault(WALL + "paper rest 1999 1998 0 1;", 34, 2);
        fault(WALL + "paper rest 1999 2000 0 1;", 34, 2);
    }

    private static void price() {
        Edge.terms(1, 7, "LAST no less; 0 to 99");
        bounds(WALL + "paper stamp 1700 1700 ", 0, 99, " 1;");
        for (int price : new int[] {0, 1, 98, 99}) {
            Edge.due(read(WALL + "paper stamp 1700 1700 " + price + " 1;", 1), price, "paper", 0, 2);
        }
    }

    private static void repeat() {
        Edge.terms(1, 7, "0 to 99; 1 to 99; PAPERS");
        bounds(WALL + "paper paint 1700 1700 0 ", 1, 99, ";");
        for (int repeat : new int[] {1, 2, 98, 99}) {
            Edge.due(read(WALL + "paper paint 1700 1700 0 " + repeat + ";", 1), repeat, "paper", 0, 3);
        }
    }

    private static void papers() {
        Edge.terms(1, 7, "PAPERS 0 .. 9, 10 at most");
        for (int papers = 9; papers <= 10; papers++) {
            PaperedOver x = read(WALL + PAPER.repeat(papers), 1);
            Edge.due(x, papers, "count", 2);
            Edge.due(x, Due.BAD, "kind", -1);
            Edge.due(x, 1, "kind", 0);
            Edge.due(x, 1, "kind", papers - 1);
            Edge.due(x, Due.BAD, "kind", papers);
        }
        fault(WALL + PAPER.repeat(11), 18 + 10 * 26, 3);
    }

    private static void tenant() {
        Edge.terms(1, 7, "tenant: 'tenant' FROM TO MEANS ';'");
        read(WALL + TENANT, 1);
        fault(WALL + "tenant 1700 1999;", 34, 1);
        fault(WALL + "tenant 1700 1999 0 0;", 37, 1);
        nearly(WALL, "tenant", " 1700 1999 0;");
    }

    private static void fromTo() {
        Edge.terms(1, 7, "(years 1700 to 1999, TO no less");
        bounds(WALL + "tenant ", 1700, 1999, " 1999 0;");
        bounds(WALL + "tenant 1700 ", 1700, 1999, " 0;");
        for (int from : new int[] {1701, 1850, 1999}) fault(WALL + "tenant " + from + " " + (from - 1) + " 0;", 30, 2);
        // The paper can have been put up in 1850 alone: the tenants of 1849 and of 1851 were not there.
        String year = "wall 1850 50 100;paper stamp 1850 1850 0 1;";
        PaperedOver x = read(year + "tenant 1849 1849 0;tenant 1849 1850 0;tenant 1850 1850 0;tenant 1850 1851 0;tenant 1851 1851 0;", 1);
        Due.lift(x, 0, 0);
        Edge.due(x, 0b01110, "tenants", 0);
    }

    private static void means() {
        Edge.terms(1, 7, "TO no less; 0 to 99; TENANTS");
        bounds(WALL + "tenant 1700 1700 ", 0, 99, ";");
        String dear = "wall 1700 50 100;paper plain 1700 1700 99 1;paper plain 1700 1700 98 1;paper plain 1700 1700 0 1;";
        PaperedOver x = read(dear + "tenant 1700 1999 98;tenant 1700 1999 99;tenant 1700 1999 0;", 1);
        for (int p = 0; p < 3; p++) Due.lift(x, 0, p);
        Edge.due(x, 0b010, "tenants", 0);
        Edge.due(x, 0b011, "tenants", 1);
        Edge.due(x, 0b111, "tenants", 2);
    }

    private static void tenants() {
        Edge.terms(1, 7, "TENANTS 0 .. 9, 10 at most");
        for (int tenants = 9; tenants <= 10; tenants++) {
            PaperedOver x = read(WALL + PAPER + TENANT.repeat(tenants), 1);
            Due.lift(x, 0, 0);
            Edge.due(x, tenants, "count", 3);
            Edge.due(x, (1 << tenants) - 1, "tenants", 0);
        }
        fault(WALL + TENANT.repeat(11), 18 + 10 * 19, 3);
    }

    private static void inPlace() {
        Edge.terms(1, 7, "A HOUSE that is read stands in place of the one before (none at first): nothing is LIFTED");
        Edge.due(new PaperedOver(), Due.STATE, "orders");
        PaperedOver x = Starts.full();
        Edge.due(x, 1, "house");
        int[] counts = {1, 1, 0, 0};
        for (int what = 1; what <= 4; what++) Edge.due(x, counts[what - 1], "count", what);
        Edge.due(x, 0, "papers", 0);
        Edge.due(x, 0, "papers", 30);
        Edge.due(x, Due.BAD, "papers", 31);
        Edge.due(x, Due.BAD, "papers", 11);
        Edge.due(x, Due.BAD, "spot", 0, -1);
        Edge.due(x, Due.STATE, "forget");
        Edge.due(x, 1, "orders");
        Edge.is("numbered from 0 again", Due.lift(x, 0, 0), 0);
        PaperedOver ring = Starts.ringed();
        Edge.due(ring, 1, "house");
        Edge.due(ring, 0, "papers", 1);
        Edge.due(ring, Due.NONE, "next");
    }

    private static void whatStays() {
        Edge.terms(1, 7, "IMAGES and ROWS stay.");
        PaperedOver x = Starts.lifted();
        x.image(1);
        Edge.due(x, 1, "house");
        Edge.due(x, 5, "count", 0);
        Edge.due(x, 1, "restore", 1);
        Edge.due(x, 6, "count", 2);
        Edge.due(x, 4, "count", 4);
        Edge.due(x, 1, "restore", 0);
        Edge.due(x, 1, "count", 2);
        Edge.due(x, 1, "count", 4);
        int[] sizes = {3, 2, 1, 0};
        for (int row = 0; row <= 3; row++) Edge.due(x, sizes[row], "drop", row);
        Edge.due(x, 1, "drop", 7);
    }

    private static void firstToken() {
        Edge.terms(1, 7, "FAULTS, the first TOKEN that has one (its first byte), of one TOKEN the least");
        fault("wall 1699 49 99;", 5, 2);
        fault("wall 1700 49 99;", 10, 2);
        fault("wall 1700 50 99;", 13, 2);
        fault("wall 1699 ? 100;", 5, 2);
        fault("wall ? 49 100;", 5, 1);
        fault("\n\n wall  9999 1", 9, 2);
        // A NUMBER out of bounds, or a word without room, that cannot stand there at all: the least is told.
        fault(WALL + "9999", 18, 1);
        fault("wall 99999 100 200;", 5, 1);
        fault(WALL.repeat(8) + PAPER + "wall", 170, 1);
        fault(WALL.repeat(8) + "wall 1", 144, 3);
        fault(WALL + PAPER.repeat(10) + TENANT + "paper", 297, 1);
    }

    /** All TOKENS of a house with one of each sort, and which of a few may stand in the place of each. */
    private static void cannotStand() {
        Edge.terms(1, 7, "1 it cannot stand there, or is none");
        String[] tokens = {"wall", "1800", "100", "200", ";", "paper", "plain", "1800", "1900", "50", "70", ";",
            "tenant", "1800", "1900", "50", ";"};
        String[] may = {"w", "n", "n", "n", ";", "wpte", "s", "n", "n", "n", "n", ";", "pte", "n", "n", "n", ";", "te"};
        String ahead = "";
        for (int i = 0; i < may.length; i++) {
            stands(ahead, "wall", may[i].contains("w"));
            stands(ahead, "paper", may[i].contains("p"));
            stands(ahead, "tenant", may[i].contains("t"));
            stands(ahead, "plain", may[i].contains("s"));
            stands(ahead, ";", may[i].contains(";"));
            stands(ahead, i < tokens.length && may[i].equals("n") ? tokens[i] : "50", may[i].contains("n"));
            stands(ahead, END, may[i].contains("e"));
            for (String never : new String[] {"a", "Wall", "house", ",", "-", "12345", "\t", "\u00ff"}) stands(ahead, never, false);
            if (i < tokens.length) ahead += tokens[i] + " ";
        }
    }

    /** Behind a TOKEN that may stand the text just ends too soon, or well. */
    private static void stands(String ahead, String token, boolean may) {
        PaperedOver x = new PaperedOver();
        int answer = Due.house(x, ahead + token);
        String what = "'" + ahead + "' and then '" + token + "'";
        if (may && !token.equals(END)) {
            boolean well = answer == 1 || answer == -1000100 - ahead.length() - token.length();
            Edge.is(what + " may stand: " + answer, well ? 1 : 0, 1);
            return;
        }
        Edge.is(what, answer, may ? 1 : -1000100 - ahead.length());
        Edge.is(what + ", fault()", x.fault(), may ? 0 : 1);
    }

    private static void runOfFigures() {
        Edge.terms(1, 7, "(a run of five figures or more, at its first");
        read("wall 1800 100 0200;", 1);
        fault("wall 1800 100 00200;", 14, 1);
        fault("wall 1800 100 000200;", 14, 1);
        fault("wall 1800 100 " + "0".repeat(482) + "200;", 14, 1);
        fault("wall 1800 100 4294967496;", 14, 1);
        fault("wall 1800 100 18446744073709551816;", 14, 1);
        fault(WALL + "12345", 18, 1);
        fault("00000", 0, 1);
    }

    private static void theEnd() {
        Edge.terms(1, 7, "the end: how many bytes there are)");
        String[] tokens = {"wall", "1800", "100", "200", ";", "paper", "rest", "1800", "1900", "50", "70", ";", "tenant", "1800", "1900", "50"};
        String text = "";
        for (String token : tokens) {
            text += " " + token;
            for (String behind : new String[] {"", " ", "\n\n"}) {
                if (token.equals(";")) read(text + behind, 1);
                else fault(text + behind, text.length() + behind.length(), 1);
            }
        }
        for (int bytes : new int[] {0, 1, 499, 500}) fault(" ".repeat(bytes), bytes, 1);
        fault(WALL + " ".repeat(477) + "paper", 500, 1);
    }

    private static void notAsTold() {
        Edge.terms(1, 7, "2 a NUMBER that is not as told");
        String good = "wall 1800 100 200;paper plain 1800 1900 50 70;tenant 1800 1900 50;";
        int[] places = {5, 10, 14, 30, 35, 40, 43, 53, 58, 63};
        for (int place : places) {
            int end = place;
            while (Character.isDigit(good.charAt(end))) end++;
            fault(good.substring(0, place) + "1000" + good.substring(end), place, 2);
            fault(good.substring(0, place) + "9999" + good.substring(end), place, 2);
        }
        read(good, 1);
    }

    private static void moreThanRoom() {
        Edge.terms(1, 7, "3 more of a sort than there is room for (its word)");
        fault(WALL.repeat(8) + "wall", 144, 3);
        fault(WALL.repeat(8) + "\n wall ?", 146, 3);
        fault(WALL + PAPER.repeat(10) + "paper", 278, 3);
        fault(WALL + PAPER.repeat(10) + " paper plain 1", 279, 3);
        fault(WALL + TENANT.repeat(10) + "tenant", 208, 3);
        fault(WALL + TENANT.repeat(10) + " " + TENANT, 209, 3);
        // As many of two sorts as there is room for fit on a tape, and seven tenants more.
        String all = "wall1700 50 100;".repeat(8) + "paper rest1700 1700 0 1;".repeat(10) + "tenant1700 1700 0;".repeat(7);
        counted(all, 8, 10, 7);
        fault("wall1700 50 100;".repeat(8) + "paper rest1700 1700 0 1;".repeat(10) + "paper", 368, 3);
    }
}
