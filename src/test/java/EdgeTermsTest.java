import java.util.List;
import java.util.function.Supplier;

/** Boundaries of promise 1, of how long an object is used, and of the Terms ahead of their part 1. */
public final class EdgeTermsTest {
    private static final long[] MANY = {Integer.MIN_VALUE, -2, -1, 0, 1, 2, 3, 5, 6, 7, 8, 9, 10, 16, 30, 33, 40, 41, 401, Integer.MAX_VALUE};
    private static final long[] SOME = {Integer.MIN_VALUE, -1, 0, 1, 2, 3, 6, 8, 41, Integer.MAX_VALUE};
    private static final long[] FEW = {Integer.MIN_VALUE, -1, 0, 2, 4, 8, Integer.MAX_VALUE};
    private static final long[] FEWEST = {-1, 0, 1, 4, Integer.MAX_VALUE};

    public static void main(String[] args) {
        newObject();
        lastCall();
        fromNought();
        cutTowardsNought();
        lowestTerms();
        setsAreBits();
        firstThatFits();
        noSuchThing();
        stateAndFull();
        firstInTime();
        missing();
        noSuchPlace();
        notThat();
        fewerThanNone();
        twoLanes();
        nothingChanges();
        Due.end();
    }

    private static void newObject() {
        Edge.promise(1, "No HOUSE.");
        String[] states = {"orders", "next", "forget"};
        for (String call : states) Edge.still(PaperedOver::new, Due.STATE, call);
        String[] statesOfOne = {"papers", "first", "tells", "image", "restore"};
        for (String call : statesOfOne) Edge.still(PaperedOver::new, Due.STATE, call, 0);
        Edge.still(PaperedOver::new, Due.STATE, "scrap", 0, 0);
        for (int what = 0; what <= 5; what++) Edge.still(PaperedOver::new, 0, "count", what);
        Edge.still(PaperedOver::new, 0, "fault");
        Edge.still(PaperedOver::new, 0, "status");
        Edge.still(PaperedOver::new, Due.NONE, "trace", 0);
        PaperedOver x = new PaperedOver();
        Edge.is("the least house", Due.house(x, "wall1700 50 100;"), 1);
        Edge.due(x, 1, "orders");
    }

    private static void lastCall() {
        Edge.use("An object is used for at most 512 calls after it has been made; what later calls answer is free.");
        // count, 35 times feed, house; a row, an item and a lift for each of eight; one item more for two: 65 calls.
        PaperedOver x = Due.standing(Due.plain(1, 10));
        for (int p = 0; p < 8; p++) Due.lift(x, 0, p);
        Due.lift(x, 0, 9, 8);
        for (int call = 66; call <= 510; call++) Edge.due(x, 40, "row", call % 8, 2, 40);
        Edge.due(x, 1814400, "orders");
        Edge.due(x, 1, "next");
    }

    private static void fromNought() {
        Edge.terms(0, 2, "Numbers go from 0 on.");
        Supplier<PaperedOver> start = Starts::lifted;
        Edge.due(start.get(), 9, "set", 0, 0, 9);
        Edge.still(start, Due.BAD, "set", -1, 0, 9);
        Edge.still(start, Due.PLACE, "set", 0, -1, 9);
        Edge.still(start, 0, "spot", 0, 0);
        Edge.still(start, Due.BAD, "spot", -1, 0);
        Edge.still(start, 1790, "paper", 0, 0);
        Edge.still(start, Due.BAD, "paper", -1, 0);
        Edge.still(start, 15, "papers", 30);
        Edge.still(start, Due.BAD, "papers", 29);
        Edge.still(start, 0, "first", 0);
        Edge.still(start, Due.BAD, "first", -1);
        Edge.still(start, 12, "trace", 0);
        Edge.still(start, Due.NONE, "trace", -1);
        Edge.still(start, 3, "tenants", 4);
    }

    private static void cutTowardsNought() {
        Edge.terms(0, 24, "All that is divided is cut towards 0");
        PaperedOver x = Due.standing("wall 1700 99 100;paper plain 1700 1700 0 7;paper plain 1700 1700 0 4;paper plain 1700 1700 0 8;");
        // 7 by 2 is 3 and 1 is left, 4 by 2 is 2 and nothing is; of 4 and 8 nothing is left by 1, 2 and 4, 1 and 2 by 3.
        Edge.due(x, 2, "tells", 3);
        Edge.due(x, 3, "tells", 6);
        Edge.due(x, 6, "scrap", 0, 8);
        Edge.due(x, 6, "scrap", 8, 0);
        Edge.due(x, 1, "scrap", 0, 7);
        Edge.due(x, 1, "scrap", 7, 0);
        Edge.due(x, 0, "scrap", 9, 0);
    }

    private static void lowestTerms() {
        Edge.terms(0, 16, "but fractions, told as two numbers in lowest terms (0 is 0 by 1)");
        PaperedOver x = Due.standing(Due.plain(1, 10));
        Due.lift(x, 0, 1, 0);
        fraction(x, 0, 1, 0, 1);
        fraction(x, 1, 0, 1, 1);
        Due.lift(x, 0, 2);
        fraction(x, 0, 2, 1, 3);
        fraction(x, 2, 0, 2, 3);
        for (int p = 3; p < 10; p++) Due.lift(x, 0, p);
        // 1814400 orders: 0, 907200 or 1209600 of them.
        fraction(x, 0, 1, 0, 1);
        fraction(x, 8, 9, 1, 2);
        fraction(x, 1, 9, 2, 3);
    }

    private static void fraction(PaperedOver x, int a, int b, int above, int below) {
        Edge.due(x, above, "odds", a, b, 0);
        Edge.due(x, below, "odds", a, b, 1);
    }

    private static void setsAreBits() {
        Edge.terms(0, 24, "Sets are bits.");
        Supplier<PaperedOver> start = () -> Due.standing(Due.plain(8, 10));
        PaperedOver x = start.get();
        Due.lift(x, 7, 9, 0);
        Edge.due(x, 1 << 9 | 1, "papers", 0);
        Edge.due(x, 1 << 9, "papers", 10);
        Edge.due(x, 0, "papers", 19);
        Edge.due(x, 1023, "scrap", 0, 400);
        Edge.due(x, 1, "tells", 1 << 9);
        Edge.due(x, Due.NONE, "tells", 1023);
        Edge.still(start, Due.BAD, "tells", 1 << 10);
        Edge.still(start, Due.BAD, "tells", 1 << 10 | 1);
        Edge.still(start, Due.BAD, "tells", -1);
        Edge.due(x, 0, "rolls", 0, 0, 0);
        Edge.due(x, 2, "rolls", 0, 1 << 7, 0);
        Edge.due(x, 16, "rolls", 0, 255, 0);
        Edge.still(start, Due.BAD, "rolls", 0, 1 << 8, 0);
        Edge.still(start, Due.BAD, "rolls", 0, 1 << 31, 0);
    }

    private static void firstThatFits() {
        Edge.terms(0, 26, "Refusals are answers, the first of these that fits, but as told");
        for (int k : new int[] {-1, 2}) Edge.still(Starts::bare, Due.BAD, "image", k);
        for (int k : new int[] {-1, 2}) Edge.still(Starts::bare, Due.BAD, "restore", k);
        Edge.still(Starts::ringed, Due.BAD, "odds", 0, 0, 0);
        Edge.still(Starts::ringed, Due.BAD, "years", 5, 0);
        Edge.still(Starts::ringed, Due.BAD, "younger", 1, 1);
        Edge.still(Starts::ringed, Due.BAD, "lacks", 3, 0);
        Edge.still(Starts::ringed, Due.BAD, "tenants", 5);
        Edge.still(Starts::ringed, Due.BAD, "cupboard", 5, 0);
        Edge.still(Starts::brim, Due.BAD, "feed", 0, 9);
        Edge.still(Starts::full, Due.BAD, "lift", 3, 0, 0, 1);
        for (int what : new int[] {-1, 0, 2}) Edge.still(Starts::bare, Due.STATE, "papers", what);
        for (int place : new int[] {-1, 0}) Edge.still(Starts::bare, Due.STATE, "first", place);
        for (int h : new int[] {-1, 0, 401}) Edge.still(Starts::bare, Due.STATE, "scrap", h, 0);
        for (int some : new int[] {-1, 0, 1}) Edge.still(Starts::bare, Due.STATE, "tells", some);
    }

    private static void noSuchThing() {
        Edge.terms(0, 2, "BAD (a number is not as told; there is no such thing)");
        Edge.still(Starts::lifted, Due.BAD, "row", 8, 0, 0);
        Edge.still(Starts::lifted, Due.BAD, "row", 0, 0, 41);
        Edge.still(Starts::lifted, Due.BAD, "paper", 6, 0);
        Edge.still(Starts::lifted, 1900, "paper", 5, 0);
        Edge.still(Starts::lifted, Due.BAD, "spot", 4, 0);
        Edge.still(Starts::lifted, 4, "spot", 3, 0);
        Edge.still(Starts::lifted, Due.BAD, "lacks", 3, 0);
        Edge.still(Starts::lifted, 0, "lacks", 2, 0);
        Edge.still(Starts::bare, Due.BAD, "paper", 0, 0);
    }

    private static void stateAndFull() {
        Edge.terms(0, 10, "STATE (as told), FULL (as told)");
        Edge.still(PaperedOver::new, Due.STATE, "forget");
        Edge.still(Starts::lifted, Due.STATE, "restore", 1);
        Edge.still(Starts::ringed, Due.STATE, "next");
        Edge.still(Starts::brim, Due.FULL, "feed", 32, 1);
        Edge.still(Starts::full, Due.FULL, "lift", 0, 0, 0, 1);
        Edge.still(Starts::full, Due.FULL, "lift", 0, 4, 0, 1);
        Edge.still(Starts::full, Due.FULL, "lift", 0, 0, 3, 1);
        Edge.still(Starts::full, Due.FULL, "lift", 0, 2, 0, 1);
    }

    private static void firstInTime() {
        Edge.terms(0, 4, "then FINDINGS, of several the first in time");
        Edge.still(Starts::lifted, Due.NULL, "copy", 4, -1, 0, 0, -1);
        Edge.still(Starts::lifted, Due.NULL, "copy", 1, -1, 4, 0, 1);
        Edge.still(Starts::lifted, Due.STORE, "copy", 0, -1, 1, 0, 1);
        Edge.still(Starts::lifted, Due.PLACE, "copy", 0, -1, 3, 0, 1);
        Edge.still(Starts::lifted, Due.NULL, "set", 4, -1, 0);
        Edge.still(Starts::lifted, Due.NULL, "lift", 0, 4, -1, 1);
        Edge.still(Starts::lifted, Due.PLACE, "lift", 0, 1, 1, 2);
    }

    private static void missing() {
        Edge.terms(0, 33, "-1000010 less 1 NULL (a ROW that is missing)");
        Edge.still(Starts::lifted, -1000011, "set", 4, 0, 0);
        Edge.still(Starts::lifted, -1000011, "copy", 0, 0, 6, 0, 1);
        Edge.still(Starts::lifted, -1000011, "drop", 5);
        Edge.still(Starts::lifted, -1000011, "lift", 0, 6, 0, 1);
        Edge.due(Starts.lifted(), 0, "drop", 3);
    }

    private static void noSuchPlace() {
        Edge.terms(0, 33, "2 PLACE (no such place of a ROW)");
        for (int i : new int[] {-1, 3}) Edge.still(Starts::lifted, -1000012, "set", 0, i, 7);
        for (int i : new int[] {0, 2}) Edge.due(Starts.lifted(), 7, "set", 0, i, 7);
        Edge.still(Starts::lifted, -1000012, "set", 3, 0, 7);
    }

    private static void notThat() {
        Edge.terms(0, 33, "3 KIND (a PAPER that is not that)");
        Edge.still(Starts::missed, -1000013, "as", 0, 4);
        PaperedOver x = Starts.missed();
        Edge.due(x, 0, "as", 0, 1);
        Edge.due(x, 0, "status");
    }

    private static void fewerThanNone() {
        Edge.terms(0, 33, "4 SIZE (fewer than none)");
        Edge.still(Starts::lifted, -1000014, "row", 0, 0, -1);
        Edge.still(Starts::lifted, -1000014, "row", 4, 2, Integer.MIN_VALUE);
        Edge.due(Starts.lifted(), 0, "row", 0, 0, 0);
    }

    private static void twoLanes() {
        Edge.terms(0, 33, "5 STORE (ROWS of two LANES)");
        Edge.still(Starts::lifted, -1000015, "copy", 0, 0, 1, 0, 1);
        Edge.still(Starts::lifted, -1000015, "copy", 1, 0, 2, 0, 1);
        Edge.still(Starts::lifted, -1000015, "copy", 2, 0, 3, 0, 0);
        Edge.due(Starts.lifted(), 0, "copy", 0, 0, 3, 0, 0);
    }

    /** Every call with numbers from everywhere: where it is refused, or tells only, all is as it was. */
    private static void nothingChanges() {
        Edge.terms(0, 33, "What is refused, or found, changes nothing but status().");
        sweep("a house", Starts::lifted);
        sweep("no house", Starts::bare);
        sweep("a ring", Starts::ringed);
        sweep("nine spots", Starts::full);
        sweep("a full tape", Starts::brim);
        sweep("a new object", PaperedOver::new);
    }

    private static void sweep(String where, Supplier<PaperedOver> start) {
        int before = start.get().status();
        List<String> was = Probe.of(start.get());
        for (String call : Calls.names()) {
            int n = Calls.arguments(call);
            long[] from = n <= 1 ? MANY : n == 2 ? SOME : n == 3 ? FEW : FEWEST;
            int turns = (int) Math.round(Math.pow(from.length, n));
            for (int turn = 0; turn < turns; turn++) {
                one(where, start, call, arguments(from, n, turn), before, was);
            }
        }
    }

    private static long[] arguments(long[] from, int n, int turn) {
        long[] args = new long[n];
        for (int i = 0, rest = turn; i < n; i++, rest /= from.length) args[i] = from[rest % from.length];
        return args;
    }

    private static void one(String where, Supplier<PaperedOver> start, String call, long[] args, int before, List<String> was) {
        PaperedOver x = start.get();
        int answer = Calls.of(x, call, args);
        boolean refused = answer == Due.BAD || answer == Due.STATE || answer == Due.FULL;
        boolean found = answer <= Due.NULL && answer >= Due.STORE;
        if (!refused && !found) return;
        String what = where + ", " + Calls.text(call, args) + " = " + answer;
        Edge.is(what + ", then status()", x.status(), Edge.statusAfter(answer, before));
        Edge.alike(what, Probe.of(x), was);
    }
}
