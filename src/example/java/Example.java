public final class Example {
    public static void main(String[] args) {
        PaperedOver x = new PaperedOver();
        feed(x, "wall 1780 420 260; wall 1845 300 240;");
        feed(x, "paper plain 1790 1830 5 53; paper news 1841 1841 1 30;");
        feed(x, "paper stamp 1850 1861 20 64; paper paint 1700 1999 2 1;");
        feed(x, "tenant 1785 1839 10; tenant 1840 1899 50;");
        System.out.println("walls: " + x.house());

        lift(x, 0, 0, 1, 2);
        lift(x, 0, 0, 3);
        lift(x, 1, 2);
        System.out.println("papers seen, as bits: " + x.papers(0));
        System.out.println("orders that fit: " + x.orders());
        System.out.println("paper 3 ahead of 1: " + x.odds(3, 1, 0) + " by " + x.odds(3, 1, 1));
        System.out.println("papers to hold against one another next: " + x.next());
        System.out.println("paper 0 was put up from " + x.years(0, 0) + " to " + x.years(0, 1));
        System.out.println("by tenants, as bits: " + x.tenants(0));
        System.out.println("wall 1 is younger than wall 0: " + x.younger(1, 0));
        System.out.println("a cupboard at spot 1 from " + x.cupboard(1, 0) + " to " + x.cupboard(1, 1));
        System.out.println("rolls of paper 2 for both walls: " + x.rolls(2, 3, 1));

        // Refusals are answers, too.
        System.out.println("there is no paper 4: " + (x.paper(4, 0) == PaperedOver.BAD));
        System.out.println("row 5 is missing: " + x.set(5, 0, 1) + ", status " + x.status());
        feed(x, "wall 1780 42 260;");
        System.out.println("42 is too narrow: " + x.house() + ", fault " + x.fault());
    }

    // The tape takes one to eight bytes a call: of w the lowest n, the highest of them first.
    private static void feed(PaperedOver x, String text) {
        for (int i = 0; i < text.length(); i += 8) {
            int n = Math.min(8, text.length() - i);
            long w = 0;
            for (int k = 0; k < n; k++) w = w << 8 | text.charAt(i + k);
            x.feed(w, n);
        }
    }

    // Row 0, of bytes, takes the papers as they lie from the wall on; the row is then lifted as a spot.
    private static void lift(PaperedOver x, int wall, int... papers) {
        x.row(0, 0, papers.length);
        for (int i = 0; i < papers.length; i++) x.set(0, i, papers[i]);
        x.lift(wall, 0, 0, papers.length);
    }
}
