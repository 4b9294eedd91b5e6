import java.util.ArrayList;
import java.util.Arrays;
import java.util.List;
import java.util.TreeSet;
import java.util.regex.Matcher;
import java.util.regex.Pattern;

/** The document once more, told as plainly as can be: lists, sets, and every order written out. */
final class Model {
    static final int NONE = -1000000, BAD = -1000001, STATE = -1000002, FULL = -1000003;
    static final List<String> SORTS = Arrays.asList("", "plain", "stamp", "news", "rest", "paint");

    static final class House {
        final List<int[]> walls = new ArrayList<>();
        final List<int[]> papers = new ArrayList<>();
        final List<int[]> tenants = new ArrayList<>();
    }

    static final class Spot {
        final int wall;
        final List<Integer> papers = new ArrayList<>();

        Spot(int wall) {
            this.wall = wall;
        }
    }

    final int[][] rows = new int[8][];
    final int[] lanes = new int[8];
    StringBuilder tape = new StringBuilder();
    House house = null;
    List<Spot> spots = new ArrayList<>();
    final House[] keptHouses = new House[2];
    final List<List<Spot>> keptSpots = new ArrayList<>(Arrays.asList(null, null));
    final List<Integer> trace = new ArrayList<>();
    int fault = 0;
    int status = 0;

    private boolean stale = true;
    private int all;
    private int[][] before;
    private List<Integer> firstOrder;

    // ---- rows

    private int found(int number) {
        status = number;
        return -1000010 - number;
    }

    private int fine(int answer) {
        status = 0;
        return answer;
    }

    private static boolean within(long x, long least, long most) {
        return x >= least && x <= most;
    }

    int row(int row, int lane, int n) {
        if (!within(row, 0, 7) || !within(lane, 0, 2) || n > 40) return BAD;
        if (n < 0) return found(4);
        rows[row] = new int[n];
        lanes[row] = lane;
        return fine(n);
    }

    int set(int row, int i, int v) {
        if (!within(row, 0, 7)) return BAD;
        if (rows[row] == null) return found(1);
        if (!within(i, 0, rows[row].length - 1)) return found(2);
        int bits = 8 << lanes[row];
        rows[row][i] = v << 32 - bits >> 32 - bits;
        return fine(rows[row][i]);
    }

    int copy(int a, int i, int b, int j, int n) {
        if (!within(a, 0, 7) || !within(b, 0, 7)) return BAD;
        if (rows[a] == null || rows[b] == null) return found(1);
        if (lanes[a] != lanes[b]) return found(5);
        if (i < 0 || j < 0 || n < 0 || (long) i + n > rows[a].length || (long) j + n > rows[b].length) return found(2);
        int[] were = rows[a].clone();
        for (int k = 0; k < n; k++) rows[b][j + k] = were[i + k];
        return fine(n);
    }

    int drop(int row) {
        if (!within(row, 0, 7)) return BAD;
        if (rows[row] == null) return found(1);
        int had = rows[row].length;
        rows[row] = null;
        return fine(had);
    }

    // ---- houses, spots

    int feed(long w, int n) {
        if (!within(n, 1, 8)) return BAD;
        if (tape.length() + n > 500) return FULL;
        for (int i = n; i >= 1; i--) tape.append((char) (w >> 8 * (i - 1) & 255));
        return tape.length();
    }

    /** Thrown where a token has a fault: its place and number. */
    private static final class Slip extends Exception {
        private static final long serialVersionUID = 1L;
        final int place;
        final int number;

        Slip(int place, int number) {
            this.place = place;
            this.number = number;
        }
    }

    private List<String> tokens;
    private List<Integer> places;
    private int at;

    private void cut(String text) {
        tokens = new ArrayList<>();
        places = new ArrayList<>();
        Matcher m = Pattern.compile("[a-z]+|[0-9]+|[^ \n]", Pattern.DOTALL).matcher(text);
        while (m.find()) {
            tokens.add(m.group());
            places.add(m.start());
        }
        tokens.add("");
        places.add(text.length());
        at = 0;
    }

    private int number(int least, int most) throws Slip {
        if (!tokens.get(at).matches("[0-9]{1,4}")) throw new Slip(places.get(at), 1);
        int value = Integer.parseInt(tokens.get(at));
        if (!within(value, least, most)) throw new Slip(places.get(at), 2);
        at++;
        return value;
    }

    private void sign() throws Slip {
        if (!tokens.get(at).equals(";")) throw new Slip(places.get(at), 1);
        at++;
    }

    private void room(List<int[]> of, int most) throws Slip {
        if (of.size() == most) throw new Slip(places.get(at), 3);
        at++;
    }

    private House parse() throws Slip {
        House h = new House();
        while (tokens.get(at).equals("wall")) {
            room(h.walls, 8);
            h.walls.add(new int[] {number(1700, 1999), number(50, 999), number(100, 400)});
            sign();
        }
        if (h.walls.isEmpty()) throw new Slip(places.get(at), 1);
        while (tokens.get(at).equals("paper")) {
            room(h.papers, 10);
            int kind = SORTS.indexOf(tokens.get(at));
            if (kind < 1) throw new Slip(places.get(at), 1);
            at++;
            int made = number(1700, 1999);
            h.papers.add(new int[] {made, number(made, 1999), number(0, 99), number(1, 99), kind});
            sign();
        }
        while (tokens.get(at).equals("tenant")) {
            room(h.tenants, 10);
            int from = number(1700, 1999);
            h.tenants.add(new int[] {from, number(from, 1999), number(0, 99)});
            sign();
        }
        if (at != tokens.size() - 1) throw new Slip(places.get(at), 1);
        return h;
    }

    int house() {
        cut(tape.toString());
        tape = new StringBuilder();
        try {
            house = parse();
        } catch (Slip slip) {
            fault = slip.number;
            return -1000100 - slip.place;
        }
        spots = new ArrayList<>();
        stale = true;
        return house.walls.size();
    }

    int fault() {
        return fault;
    }

    private int walls() {
        return house == null ? 0 : house.walls.size();
    }

    private int papers() {
        return house == null ? 0 : house.papers.size();
    }

    private boolean isWall(int w) {
        return within(w, 0, walls() - 1);
    }

    private boolean isPaper(int p) {
        return within(p, 0, papers() - 1);
    }

    int lift(int wall, int row, int i, int n) {
        if (!isWall(wall) || !within(row, 0, 7) || !within(n, 1, 8)) return BAD;
        if (spots.size() == 9) return FULL;
        if (rows[row] == null) return found(1);
        if (i < 0 || (long) i + n > rows[row].length) return found(2);
        Spot spot = new Spot(wall);
        for (int k = i; k < i + n; k++) {
            int p = rows[row][k];
            if (!isPaper(p) || spot.papers.contains(p)) return BAD;
            spot.papers.add(p);
        }
        spots.add(spot);
        stale = true;
        return fine(spots.size() - 1);
    }

    int forget() {
        if (spots.isEmpty()) return STATE;
        spots.remove(spots.size() - 1);
        stale = true;
        return spots.size();
    }

    int spot(int spot, int k) {
        if (!within(spot, 0, spots.size() - 1) || k < -1) return BAD;
        if (k == -1) return spots.get(spot).wall;
        return k < spots.get(spot).papers.size() ? spots.get(spot).papers.get(k) : NONE;
    }

    private TreeSet<Integer> seen() {
        TreeSet<Integer> some = new TreeSet<>();
        for (Spot s : spots) some.addAll(s.papers);
        return some;
    }

    private TreeSet<Integer> on(int wall) {
        TreeSet<Integer> some = new TreeSet<>();
        for (Spot s : spots) if (s.wall == wall) some.addAll(s.papers);
        return some;
    }

    private boolean ahead(int a, int b) {
        for (Spot s : spots) {
            int i = s.papers.indexOf(b);
            if (i > 0 && s.papers.get(i - 1) == a) return true;
        }
        return false;
    }

    private boolean sure(int a, int b) {
        TreeSet<Integer> reached = new TreeSet<>();
        List<Integer> todo = new ArrayList<>(List.of(a));
        while (!todo.isEmpty()) {
            int p = todo.remove(0);
            for (int q : seen()) if (ahead(p, q) && reached.add(q)) todo.add(q);
        }
        return reached.contains(b);
    }

    private boolean ring() {
        for (int p : seen()) if (sure(p, p)) return true;
        return false;
    }

    private static int bits(Iterable<Integer> some) {
        int bits = 0;
        for (int p : some) bits |= 1 << p;
        return bits;
    }

    int papers(int what) {
        if (house == null) return STATE;
        TreeSet<Integer> some = new TreeSet<>();
        if (what == 0) return bits(seen());
        if (what == 1) {
            for (int p : seen()) if (sure(p, p)) some.add(p);
            return bits(some);
        }
        if (within(what, 10, 10 + papers() - 1)) {
            for (int p : seen()) if (sure(p, what - 10)) some.add(p);
            return bits(some);
        }
        return within(what, 30, 30 + walls() - 1) ? bits(on(what - 30)) : BAD;
    }

    int paper(int paper, int what) {
        return isPaper(paper) && within(what, 0, 3) ? house.papers.get(paper)[what] : BAD;
    }

    // ---- orders, years

    private void writeOut() {
        if (!stale) return;
        stale = false;
        all = 0;
        before = new int[10][10];
        firstOrder = null;
        boolean[][] edge = new boolean[10][10];
        for (int p : seen()) for (int q : seen()) edge[p][q] = ahead(p, q);
        goOn(new ArrayList<>(), new ArrayList<>(seen()), edge);
    }

    private void goOn(List<Integer> order, List<Integer> left, boolean[][] edge) {
        if (left.isEmpty()) {
            all++;
            if (firstOrder == null) firstOrder = new ArrayList<>(order);
            for (int i = 0; i < order.size(); i++) {
                for (int j = i + 1; j < order.size(); j++) before[order.get(i)][order.get(j)]++;
            }
            return;
        }
        for (int i = 0; i < left.size(); i++) {
            Integer p = left.get(i);
            boolean free = true;
            for (int q : left) if (edge[q][p]) free = false;
            if (!free) continue;
            left.remove(i);
            order.add(p);
            goOn(order, left, edge);
            order.remove(order.size() - 1);
            left.add(i, p);
        }
    }

    int orders() {
        if (house == null) return STATE;
        writeOut();
        return all;
    }

    int first(int place) {
        if (house == null) return STATE;
        if (place < 0) return BAD;
        writeOut();
        return firstOrder != null && place < firstOrder.size() ? firstOrder.get(place) : NONE;
    }

    int odds(int a, int b, int what) {
        if (!seen().contains(a) || !seen().contains(b) || a == b || !within(what, 0, 1)) return BAD;
        if (ring()) return STATE;
        writeOut();
        int above = before[a][b];
        int below = all;
        for (int d = 2; d <= below; d++) {
            while (above % d == 0 && below % d == 0) {
                above /= d;
                below /= d;
            }
        }
        return what == 0 ? above : below;
    }

    int next() {
        if (house == null || ring()) return STATE;
        writeOut();
        int best = NONE;
        int part = 0;
        for (int a : seen()) {
            for (int b : seen().tailSet(a, false)) {
                if (sure(a, b) || sure(b, a)) continue;
                int greater = Math.max(before[a][b], before[b][a]);
                if (best == NONE || greater < part) {
                    best = 10 * a + b;
                    part = greater;
                }
            }
        }
        return best;
    }

    private int least(int p) {
        int year = house.papers.get(p)[0];
        for (int w = 0; w < walls(); w++) if (on(w).contains(p)) year = Math.max(year, house.walls.get(w)[0]);
        for (int q : seen()) if (ahead(q, p)) year = Math.max(year, least(q) + 1);
        return year;
    }

    private int most(int p) {
        int kind = house.papers.get(p)[4];
        int year = kind == 2 || kind == 3 ? house.papers.get(p)[1] : 1999;
        for (int q : seen()) if (ahead(p, q)) year = Math.min(year, most(q) - 1);
        return year;
    }

    int years(int paper, int what) {
        if (!seen().contains(paper) || !within(what, 0, 2)) return BAD;
        if (ring()) return STATE;
        if (what == 0) return least(paper);
        return what == 1 ? most(paper) : least(paper) > most(paper) ? 1 : 0;
    }

    int younger(int a, int b) {
        if (!isWall(a) || !isWall(b) || a == b) return BAD;
        if (ring()) return STATE;
        for (Spot s : spots) if (s.wall == b && most(s.papers.get(0)) < house.walls.get(a)[0]) return 1;
        return 0;
    }

    int lacks(int wall, int what) {
        if (!isWall(wall) || !within(what, 0, 1)) return BAD;
        if (ring()) return STATE;
        TreeSet<Integer> some = new TreeSet<>();
        for (int p : seen()) {
            if (on(wall).contains(p)) continue;
            boolean behind = false;
            boolean front = false;
            for (int q : on(wall)) {
                behind |= sure(q, p);
                front |= sure(p, q);
            }
            if (what == 0 ? behind && front : most(p) < house.walls.get(wall)[0]) some.add(p);
        }
        return bits(some);
    }

    int tenants(int paper) {
        if (!seen().contains(paper)) return BAD;
        if (ring()) return STATE;
        TreeSet<Integer> some = new TreeSet<>();
        for (int year = least(paper); year <= most(paper); year++) {
            for (int t = 0; t < house.tenants.size(); t++) {
                int[] tenant = house.tenants.get(t);
                if (within(year, tenant[0], tenant[1]) && tenant[2] >= house.papers.get(paper)[2]) some.add(t);
            }
        }
        return bits(some);
    }

    int cupboard(int spot, int what) {
        if (!within(spot, 0, spots.size() - 1) || !within(what, 0, 1)) return BAD;
        if (ring()) return STATE;
        TreeSet<Integer> years = new TreeSet<>();
        for (int p : on(spots.get(spot).wall)) {
            if (!spots.get(spot).papers.contains(p)) years.add(what == 0 ? least(p) : most(p));
        }
        if (years.isEmpty()) return NONE;
        return what == 0 ? years.first() : years.last();
    }

    // ---- scraps, rolls

    int scrap(int h, int k) {
        if (house == null) return STATE;
        if (!within(h, 0, 400) || !within(k, 0, 400)) return BAD;
        TreeSet<Integer> some = new TreeSet<>();
        for (int p = 0; p < papers(); p++) {
            int repeat = house.papers.get(p)[3];
            for (int far = 0; far <= 400; far += repeat) {
                if (far == Math.abs(h - k) && house.papers.get(p)[4] != 5) some.add(p);
            }
        }
        return bits(some);
    }

    int tells(int some) {
        if (house == null) return STATE;
        if (some < 0 || some >= 1 << papers()) return BAD;
        for (int length = 1; length <= 99; length++) {
            TreeSet<Integer> lefts = new TreeSet<>();
            for (int p = 0; p < papers(); p++) {
                if ((some & 1 << p) != 0) lefts.add(house.papers.get(p)[3] % length);
            }
            if (lefts.size() == Integer.bitCount(some)) return length;
        }
        return NONE;
    }

    int rolls(int paper, int walls, int what) {
        if (!isPaper(paper) || walls < 0 || walls >= 1 << walls() || !within(what, 0, 2)) return BAD;
        List<Integer> strips = new ArrayList<>();
        int wide = 0;
        int repeat = house.papers.get(paper)[3];
        for (int w = 0; w < walls(); w++) {
            if ((walls & 1 << w) == 0) continue;
            wide += house.walls.get(w)[1];
            int length = 0;
            while (length < house.walls.get(w)[2]) length += repeat;
            for (int cm = 0; cm < house.walls.get(w)[1]; cm += 50) strips.add(length);
        }
        if (house.papers.get(paper)[4] == 5) return what == 1 ? (int) Math.ceil(wide / 500.0) : 0;
        List<Integer> rolls = new ArrayList<>();
        for (int strip : strips) {
            if (rolls.isEmpty() || rolls.get(rolls.size() - 1) < strip) rolls.add(1000);
            rolls.set(rolls.size() - 1, rolls.get(rolls.size() - 1) - strip);
        }
        if (what == 0) return strips.size();
        if (what == 1) return rolls.size();
        return rolls.isEmpty() ? 0 : rolls.get(rolls.size() - 1);
    }

    int image(int k) {
        if (!within(k, 0, 1)) return BAD;
        if (house == null) return STATE;
        keptHouses[k] = house;
        keptSpots.set(k, new ArrayList<>(spots));
        return 1;
    }

    int restore(int k) {
        if (!within(k, 0, 1)) return BAD;
        if (keptHouses[k] == null) return STATE;
        house = keptHouses[k];
        spots = new ArrayList<>(keptSpots.get(k));
        stale = true;
        return 1;
    }

    // ---- asked: here by Java's own kinds

    private class Paper {
        final int number;
        final int[] told;

        Paper(int number) {
            this.number = number;
            this.told = house.papers.get(number);
        }

        int size() {
            trace.add(10);
            return told[3];
        }

        int mark() {
            trace.add(20);
            return number;
        }
    }

    private class Plain extends Paper {
        Plain(int number) {
            super(number);
        }

        @Override int size() {
            trace.add(11);
            int lent = super.size();
            return lent + mark();
        }

        @Override int mark() {
            trace.add(21);
            return super.mark() + told[2];
        }
    }

    private class Dated extends Paper {
        Dated(int number) {
            super(number);
        }

        @Override int size() {
            trace.add(13);
            return super.size() - told[2];
        }

        @Override int mark() {
            trace.add(22);
            return super.mark() + told[0];
        }
    }

    private class News extends Dated {
        News(int number) {
            super(number);
        }

        @Override int size() {
            trace.add(14);
            return 2 * super.size();
        }
    }

    private class Rest extends Plain {
        Rest(int number) {
            super(number);
        }

        @Override int size() {
            trace.add(12);
            return -super.size();
        }

        @Override int mark() {
            trace.add(24);
            return super.mark() - 1000;
        }
    }

    private class Paint extends Paper {
        Paint(int number) {
            super(number);
        }

        @Override int mark() {
            trace.add(23);
            int lent = super.mark();
            return lent - size();
        }
    }

    private Paper object(int paper) {
        switch (house.papers.get(paper)[4]) {
            case 1: return new Plain(paper);
            case 2: return new Dated(paper);
            case 3: return new News(paper);
            case 4: return new Rest(paper);
            default: return new Paint(paper);
        }
    }

    int kind(int paper) {
        return isPaper(paper) ? house.papers.get(paper)[4] : BAD;
    }

    int as(int paper, int kind) {
        if (!isPaper(paper) || !within(kind, 0, 5)) return BAD;
        Class<?>[] kinds = {Paper.class, Plain.class, Dated.class, News.class, Rest.class, Paint.class};
        return kinds[kind].isInstance(object(paper)) ? fine(paper) : found(3);
    }

    int ask(int paper, int what) {
        if (!isPaper(paper) || !within(what, 0, 1)) return BAD;
        trace.clear();
        return what == 0 ? object(paper).size() : object(paper).mark();
    }

    int trace(int i) {
        return within(i, 0, Math.min(16, trace.size()) - 1) ? trace.get(i) : NONE;
    }

    int count(int what) {
        int there = 0;
        for (int[] row : rows) if (row != null) there++;
        int tenants = house == null ? 0 : house.tenants.size();
        int[] counts = {there, walls(), papers(), tenants, spots.size(), tape.length()};
        return within(what, 0, 5) ? counts[what] : BAD;
    }

    int status() {
        return status;
    }
}
