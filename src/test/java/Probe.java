import java.util.ArrayList;
import java.util.List;

/** All that an object can be asked, at last by calls that change it: whatever is unlike in two objects shows. */
final class Probe {
    private final PaperedOver x;
    private final List<String> answers = new ArrayList<>();

    private Probe(PaperedOver x) {
        this.x = x;
    }

    static List<String> of(PaperedOver x) {
        Probe probe = new Probe(x);
        probe.others();
        probe.house();
        probe.layers();
        probe.facts();
        probe.tape();
        probe.images();
        probe.rows();
        return probe.answers;
    }

    private int ask(String call, long... args) {
        int answer = Calls.of(x, call, args);
        answers.add(Calls.text(call, args) + " answers " + answer);
        return answer;
    }

    private void others() {
        ask("fault");
        for (int what = 0; what <= 5; what++) ask("count", what);
        for (int i = 0; i <= 7; i++) ask("trace", i);
    }

    private void house() {
        int papers = x.count(2);
        for (int p = 0; p < papers; p++) {
            for (int what = 0; what <= 3; what++) ask("paper", p, what);
            ask("kind", p);
        }
        int walls = x.count(1);
        for (int w = 0; w < walls; w++) {
            ask("rolls", 0, 1 << w, 0);
            ask("rolls", 0, 1 << w, 2);
            ask("papers", 30 + w);
        }
    }

    private void layers() {
        int spots = x.count(4);
        for (int s = 0; s < spots; s++) {
            int k = -1;
            while (ask("spot", s, k) != Due.NONE && k < 8) k++;
        }
    }

    private void facts() {
        ask("papers", 0);
        ask("papers", 1);
        ask("orders");
        ask("next");
        int papers = x.count(2);
        for (int p = 0; p < papers; p++) {
            ask("first", p);
            ask("papers", 10 + p);
            ask("years", p, 0);
            ask("years", p, 1);
            ask("tenants", p);
        }
    }

    /** The house that the tape tells takes the place of the one there is. */
    private void tape() {
        ask("house");
        ask("fault");
        for (int what = 1; what <= 5; what++) ask("count", what);
        ask("paper", 0, 0);
    }

    private void images() {
        for (int k = 0; k <= 1; k++) {
            ask("restore", k);
            for (int what = 1; what <= 4; what++) ask("count", what);
            ask("paper", 0, 3);
            ask("spot", 0, 0);
        }
    }

    /** Items are seen by lifting them, lanes by what is kept of a number, sizes by dropping. */
    private void rows() {
        Due.house(x, "wall1700 50 100;" + "paper news1700 1700 0 1;".repeat(6));
        for (int row = 0; row <= 7; row++) {
            for (int i = 0; i <= 2; i++) {
                if (ask("lift", 0, row, i, 1) < 0) continue;
                ask("spot", 0, 0);
                ask("forget");
            }
            ask("set", row, 0, 0x12348765);
            ask("drop", row);
        }
    }
}
