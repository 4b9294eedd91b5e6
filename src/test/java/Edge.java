import java.util.List;
import java.util.function.Supplier;

/** What the boundary tests share: the sentence that is tried, and calls that must leave all as it was. */
final class Edge {
    private static String now = "";

    private Edge() {
    }

    /** Begins the test of a sentence of a promise, told as the document has it. */
    static void promise(int promise, String sentence) {
        begin("Promise " + promise, "", sentence);
    }

    /** Begins the test of a sentence of the Terms' part (0: ahead of part 1), and tells the promise it bears on. */
    static void terms(int part, int promise, String sentence) {
        begin("Terms " + part, " for promise " + promise, sentence);
    }

    /** Begins the test of a sentence about how an object is used. */
    static void use(String sentence) {
        begin(Document.USE, "", sentence);
    }

    private static void begin(String part, String bearsOn, String sentence) {
        now = part + bearsOn + ", '" + sentence + "': ";
        Due.is(now + "so says the document", Document.says(part, sentence) ? 1 : 0, 1);
    }

    static void is(String what, long got, long want) {
        Due.is(now + what, got, want);
    }

    static void due(PaperedOver x, int want, String call, long... args) {
        is(Calls.text(call, args), Calls.of(x, call, args), want);
    }

    /** A call that changes nothing; but status() tells what it found. */
    static void still(Supplier<PaperedOver> start, int want, String call, long... args) {
        PaperedOver x = start.get();
        PaperedOver twin = start.get();
        due(x, want, call, args);
        alike(Calls.text(call, args), x, twin, statusAfter(want, twin.status()));
    }

    static int statusAfter(int answer, int before) {
        boolean found = answer <= Due.NULL && answer >= Due.STORE;
        return found ? -1000010 - answer : before;
    }

    /** Whether two objects answer all alike, but status(), which is told. */
    static void alike(String what, PaperedOver x, PaperedOver twin, int status) {
        is(what + ", then status()", x.status(), status);
        alike(what, Probe.of(x), Probe.of(twin));
    }

    static void alike(String what, List<String> got, List<String> want) {
        int same = 0;
        while (same < got.size() && same < want.size() && got.get(same).equals(want.get(same))) same++;
        boolean all = same == got.size() && same == want.size();
        String change = all ? "" : ": " + got.get(Math.min(same, got.size() - 1));
        is(what + " changes nothing else" + change, all ? 1 : 0, 1);
    }
}
