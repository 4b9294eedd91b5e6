import java.util.Random;

/** All promises at once: runs of calls, always the same ones, answered alike by the class and the model. */
public final class ModelTest {
    private static final int RUNS = 4000, CALLS = 512;

    private final Random random;
    private final PaperedOver x = new PaperedOver();
    private final Model m = new Model();
    private final int run;
    private int calls;

    private ModelTest(int run) {
        this.run = run;
        random = new Random(run);
    }

    public static void main(String[] args) {
        for (int run = 0; run < RUNS; run++) new ModelTest(run).go();
        Due.end();
    }

    /** Of a turn that goes beyond an object's last call, what that answers is free. */
    private void due(String call, int got, int want) {
        calls++;
        if (calls <= CALLS) Due.is("run " + run + ": " + call, got, want);
    }

    private int upTo(int most) {
        return random.nextInt(most + 1);
    }

    /** A number from 0 to most, now and then one just outside or far off. */
    private int near(int most) {
        int dice = random.nextInt(30);
        if (dice == 0) return -1;
        if (dice == 1) return most + 1;
        if (dice == 2) return random.nextBoolean() ? Integer.MAX_VALUE : Integer.MIN_VALUE;
        if (dice == 3) return random.nextInt();
        return upTo(Math.max(0, most));
    }

    private void go() {
        while (calls < CALLS) turn();
    }

    private void turn() {
        int dice = random.nextInt(100);
        if (dice < 1 || m.house == null && dice < 60) tell(random.nextInt(4) == 0);
        else if (dice < 12) rows();
        else if (dice < 24) lift();
        else if (dice < 30) change();
        else ask();
    }

    private void tell(boolean slips) {
        String text = text();
        if (slips) text = spoil(text);
        for (int i = 0; i < text.length(); ) {
            int n = Math.min(text.length() - i, random.nextInt(4) == 0 ? 1 + upTo(7) : 8);
            long w = random.nextLong();
            for (int k = 0; k < n; k++) w = w << 8 | text.charAt(i + k);
            due("feed " + n, x.feed(w, n), m.feed(w, n));
            i += n;
        }
        due("house of '" + text + "'", x.house(), m.house());
        due("fault of '" + text + "'", x.fault(), m.fault());
    }

    private String blank() {
        String[] blanks = {" ", " ", " ", "\n", "  ", " \n "};
        return blanks[upTo(5)];
    }

    private String number(int least, int most) {
        return blank() + (least + upTo(most - least));
    }

    private String span() {
        int from = 1700 + upTo(299);
        return blank() + from + number(from, Math.min(1999, from + upTo(60)));
    }

    private String text() {
        StringBuilder text = new StringBuilder();
        int papers = random.nextInt(20) == 0 ? 10 : upTo(8);
        for (int i = upTo(random.nextInt(3) == 0 ? 8 : 2); i >= 0; i--) {
            text.append("wall").append(number(1700, 1999)).append(number(50, 999)).append(number(100, 400)).append(";");
        }
        for (int i = 0; i < papers; i++) {
            text.append("paper ").append(Model.SORTS.get(1 + upTo(4))).append(span());
            text.append(number(0, 99)).append(number(1, random.nextBoolean() ? 99 : 9)).append(";");
        }
        for (int i = upTo(4); i > 0; i--) text.append("tenant").append(span()).append(number(0, 99)).append(";");
        return text.toString();
    }

    /** Takes a piece away, doubles one, or puts a sign somewhere. */
    private String spoil(String text) {
        int i = upTo(text.length() - 1);
        int j = Math.min(text.length(), i + 1 + upTo(random.nextBoolean() ? 2 : 25));
        String signs = "a9;0 \nwZ-\t";
        switch (upTo(4)) {
            case 0: return text.substring(0, i) + text.substring(j);
            case 1: return text.substring(0, j) + text.substring(i);
            case 2: return text.substring(0, i) + signs.charAt(upTo(signs.length() - 1)) + text.substring(i);
            case 3: return text.substring(0, i) + (char) upTo(255) + text.substring(i + 1);
            default: return text.substring(0, i);
        }
    }

    private void rows() {
        int a = near(7);
        int b = near(7);
        int i = near(6);
        int j = near(6);
        int n = near(6);
        switch (upTo(5)) {
            case 0: {
                int lane = random.nextInt(3) == 0 ? near(2) : 0;
                int size = random.nextInt(6) == 0 ? near(40) : n;
                due("row", x.row(a, lane, size), m.row(a, lane, size));
                break;
            }
            case 1: due("drop", x.drop(a), m.drop(a)); break;
            case 2: due("copy", x.copy(a, i, b, j, n), m.copy(a, i, b, j, n)); break;
            case 3: due("copy", x.copy(a, i, a, j, n), m.copy(a, i, a, j, n)); break;
            default: {
                int v = random.nextInt(4) == 0 ? random.nextInt() : upTo(10);
                due("set", x.set(a, i, v), m.set(a, i, v));
            }
        }
        due("status", x.status(), m.status());
    }

    /** Mostly papers that rise by number from the wall on, so that rings are the exception. */
    private void lift() {
        if (random.nextInt(5) == 0) {
            int wall = near(2);
            int row = near(7);
            int i = near(6);
            int n = random.nextBoolean() ? near(8) : 1;
            due("lift", x.lift(wall, row, i, n), m.lift(wall, row, i, n));
            return;
        }
        int papers = m.count(2);
        int wall = upTo(Math.max(0, m.count(1) - 1));
        int row = upTo(7);
        boolean rising = random.nextInt(12) != 0;
        int size = 0;
        due("row", x.row(row, 0, 8), m.row(row, 0, 8));
        for (int p = 0; p < papers && size < 8; p++) {
            if (random.nextInt(3) != 0) continue;
            int paper = rising ? p : papers - 1 - p;
            due("set", x.set(row, size, paper), m.set(row, size, paper));
            size++;
        }
        if (size > 3 && random.nextBoolean()) size = 1 + upTo(2);
        due("lift " + size, x.lift(wall, row, 0, size), m.lift(wall, row, 0, size));
        due("status", x.status(), m.status());
    }

    private void change() {
        int k = near(1);
        switch (upTo(3)) {
            case 0: due("image", x.image(k), m.image(k)); break;
            case 1: due("restore", x.restore(k), m.restore(k)); break;
            default: due("forget", x.forget(), m.forget());
        }
    }

    private int nearSeen() {
        int p = near(m.count(2) - 1);
        boolean seen = m.house != null && p >= 0 && p < 10 && (m.papers(0) >> p & 1) != 0;
        return seen || random.nextInt(3) == 0 ? p : near(m.count(2) - 1);
    }

    private void ask() {
        int p = nearSeen();
        int q = nearSeen();
        int w = near(m.count(1) - 1);
        int v = near(m.count(1) - 1);
        int s = near(m.count(4) - 1);
        int two = near(1);
        int three = near(2);
        int some = near((1 << m.count(2)) - 1);
        int walls = near((1 << m.count(1)) - 1);
        int h = near(400);
        int k = random.nextInt(3) == 0 ? near(400) : h + 12 * (upTo(10) - 5);
        int place = near(10);
        int what = random.nextBoolean() ? near(40) : 10 + p;
        int kind = near(5);
        switch (upTo(25)) {
            case 0: due("spot", x.spot(s, place - 1), m.spot(s, place - 1)); break;
            case 1: due("papers " + what, x.papers(what), m.papers(what)); break;
            case 2: due("papers 1", x.papers(1), m.papers(1)); break;
            case 3: due("paper", x.paper(p, kind), m.paper(p, kind)); break;
            case 4: due("orders", x.orders(), m.orders()); break;
            case 5: due("first", x.first(place), m.first(place)); break;
            case 6: case 7: due("odds " + p + " " + q, x.odds(p, q, two), m.odds(p, q, two)); break;
            case 8: case 9: due("next", x.next(), m.next()); break;
            case 10: case 11: due("years " + p + " " + three, x.years(p, three), m.years(p, three)); break;
            case 12: due("younger " + w + " " + v, x.younger(w, v), m.younger(w, v)); break;
            case 13: case 14: due("lacks " + w + " " + two, x.lacks(w, two), m.lacks(w, two)); break;
            case 15: due("tenants " + p, x.tenants(p), m.tenants(p)); break;
            case 16: case 17: due("cupboard " + s + " " + two, x.cupboard(s, two), m.cupboard(s, two)); break;
            case 18: due("scrap " + h + " " + k, x.scrap(h, k), m.scrap(h, k)); break;
            case 19: due("tells " + some, x.tells(some), m.tells(some)); break;
            case 20: case 21: due("rolls " + p + " " + walls, x.rolls(p, walls, three), m.rolls(p, walls, three)); break;
            case 22: due("kind", x.kind(p), m.kind(p)); break;
            case 23: due("as " + p + " " + kind, x.as(p, kind), m.as(p, kind)); break;
            case 24: due("ask " + p + " " + two, x.ask(p, two), m.ask(p, two)); break;
            default: due("count " + kind, x.count(kind), m.count(kind));
        }
        due("trace", x.trace(place), m.trace(place));
        due("status", x.status(), m.status());
    }
}
