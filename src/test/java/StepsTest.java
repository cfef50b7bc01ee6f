/** Promises 10 and 11: steps and voyages. */
public final class StepsTest {
    private static final String TWO = "f32" + "013" + "759" + ";p1;d2" + "/00";

    public static void main(String[] args) {
        steps();
        stepsThatCantBe();
        voyages();
        voyagesWithAFirstWrong();
        voyagesOfThoseLeft();
        voyagesChangeNothing();
        refusalsAndFaults();
        Due.end();
    }

    private static void steps() {
        HullCharts x = Due.with(TWO);
        Due.due("right", x.step(1), 1);
        Due.due("place", x.many(3), 1);
        Due.due("down", x.step(2), 2);
        Due.due("place", x.many(3), 4);
        Due.due("left", x.step(3), 1);
        Due.due("place", x.many(3), 3);
        Due.due("up", x.step(0), 0);
        Due.due("place", x.many(3), 0);
        Due.due("steps", x.many(4), 4);
        Due.due("seen", x.many(5), 6);
    }

    private static void stepsThatCantBe() {
        HullCharts x = Due.with(TWO);
        Due.due("up", x.step(0), HullCharts.STATE);
        Due.due("left", x.step(3), HullCharts.STATE);
        Due.due("right", x.step(1), 1);
        Due.due("right with looker 1 at the edge", x.step(1), HullCharts.STATE);
        Due.due("gone or not", x.scrape(1), 1);
        Due.due("right with looker 1 gone", x.step(1), HullCharts.STATE);
        Due.due("down", x.step(2), 1);
        Due.due("down", x.step(2), HullCharts.STATE);
        Due.due("no step", x.step(4), HullCharts.OUTSIDE);
        Due.due("no step", x.step(-1), HullCharts.OUTSIDE);
        Due.due("steps", x.many(4), 2);
        Due.due("no step without a sea", new HullCharts().step(4), HullCharts.OUTSIDE);
    }

    private static void voyages() {
        HullCharts x = Due.with(TWO);
        Due.lay(x, 1, 2, 1, 2, 3, 0);
        // behind them: 0 and 2, 4 and 8, 6 and 4, 0 and 1
        long[] fresh = {0, 1, 3, 4, 4};
        long[] together = {0, 2, 14, 24, 25};
        long[] greatest = {HullCharts.NONE, 2, 8, 8, 8};
        long[] place = {0, 1, 4, 3, 0};
        for (int n = 0; n <= 4; n++) {
            Due.due("seen of " + n, x.voyage(1, 2, 0, n, 0), fresh[n]);
            Due.due("first wrong of " + n, x.voyage(1, 2, 0, n, 1), HullCharts.NONE);
            Due.due("together of " + n, x.voyage(1, 2, 0, n, 2), together[n]);
            Due.due("most of " + n, x.voyage(1, 2, 0, n, 3), greatest[n]);
            Due.due("place of " + n, x.voyage(1, 2, 0, n, 4), place[n]);
        }
        Due.due("from 1 on", x.voyage(1, 2, 1, 1, 4), 3);
        Due.due("cell 0 unseen", Due.takeSea(x, "f32000000;p0/11"), 1);
        Due.due("and not met", x.voyage(1, 2, 0, 1, 0), 1);
        Due.due("two again", Due.takeSea(x, TWO), 2);
        int[] forty = new int[40];
        for (int p = 0; p < 40; p++) forty[p] = p % 2 == 0 ? 2 : 0;
        Due.lay(x, 2, 0, forty);
        Due.due("forty", x.voyage(2, 0, 0, 40, 2), 20 * (6 + 4) + 20 * (0 + 1));
    }

    private static void voyagesWithAFirstWrong() {
        HullCharts x = Due.with(TWO);
        Due.lay(x, 1, 1, 1, 2, 1, 0, 0);
        Due.due("first wrong", x.voyage(1, 1, 0, 5, 1), 2);
        for (int what = 0; what <= 4; what++) {
            if (what != 1) Due.due("first wrong, what " + what, x.voyage(1, 1, 0, 5, what), -102);
        }
        Due.due("first of all", x.voyage(1, 1, 3, 2, 1), 0);
        Due.due("first of all", x.voyage(1, 1, 3, 2, 0), -100);
    }

    private static void voyagesOfThoseLeft() {
        HullCharts x = Due.with(TWO);
        Due.lay(x, 1, 2, 1, 2, 3, 0);
        Due.due("scrape", x.scrape(1), 1);
        Due.due("seen", x.voyage(1, 2, 0, 4, 0), 2);
        Due.due("together", x.voyage(1, 2, 0, 4, 2), 10);
        Due.due("most", x.voyage(1, 2, 0, 4, 3), 6);
        Due.due("scrape", x.scrape(0), 0);
        Due.due("seen", x.voyage(1, 2, 0, 4, 0), 0);
        Due.due("together", x.voyage(1, 2, 0, 4, 2), 0);
        Due.due("none does", x.voyage(1, 2, 0, 4, 3), HullCharts.NONE);
        Due.due("place", x.voyage(1, 2, 0, 2, 4), 4);
    }

    private static void voyagesChangeNothing() {
        HullCharts x = Due.with(TWO);
        Due.lay(x, 1, 2, 1, 2);
        Due.due("a voyage", x.voyage(1, 2, 0, 2, 4), 4);
        Due.due("place", x.many(3), 0);
        Due.due("steps", x.many(4), 0);
        Due.due("seen", x.seen(), 3);
    }

    private static void refusalsAndFaults() {
        HullCharts x = new HullCharts();
        Due.due("no sheet", x.voyage(4, 3, 0, 41, 5), HullCharts.UNKNOWN);
        Due.due("no sheet", x.voyage(-1, 0, 0, 0, 0), HullCharts.UNKNOWN);
        Due.due("no lane", x.voyage(0, 3, 0, 0, 0), HullCharts.OUTSIDE);
        Due.due("no sea", x.voyage(0, 0, 0, 0, 0), HullCharts.STATE);
        x = Due.with(TWO);
        Due.due("nothing", x.voyage(1, 2, -1, 0, 0), -11);
        Due.due("fault", x.fault(), 1);
        Due.lay(x, 1, 2, 1, 4, -1);
        Due.due("no lane", x.voyage(1, -1, 0, 0, 0), HullCharts.OUTSIDE);
        Due.due("refused", x.fault(), 0);
        Due.due("too many", x.voyage(1, 2, 0, 41, 0), HullCharts.OUTSIDE);
        Due.due("below 0", x.voyage(1, 2, 0, -1, 0), HullCharts.OUTSIDE);
        Due.due("what", x.voyage(1, 2, 0, 0, 5), HullCharts.OUTSIDE);
        Due.due("what", x.voyage(1, 2, 0, 0, -1), HullCharts.OUTSIDE);
        Due.due("cast ahead of index", x.voyage(1, 0, 9, 1, 0), -12);
        Due.due("fault", x.fault(), 2);
        Due.due("index ahead of no step", x.voyage(1, 2, 1, 3, 0), -13);
        Due.due("fault", x.fault(), 3);
        Due.due("index of none", x.voyage(1, 2, 4, 0, 0), -13);
        Due.due("none at the end", x.voyage(1, 2, 3, 0, 0), 0);
        Due.due("index", x.voyage(1, 2, Integer.MAX_VALUE, 40, 0), -13);
        Due.due("index", x.voyage(1, 2, Integer.MIN_VALUE, 40, 0), -13);
        Due.due("a cell is no step", x.voyage(1, 2, 0, 2, 0), HullCharts.OUTSIDE);
        Due.due("refused", x.fault(), 0);
        Due.due("a cell is no step", x.voyage(1, 2, 2, 1, 0), HullCharts.OUTSIDE);
        Due.lay(x, 2, 2, 0, 4);
        Due.due("no step behind the first wrong", x.voyage(2, 2, 0, 2, 1), HullCharts.OUTSIDE);
        Due.due("the first wrong", x.voyage(2, 2, 0, 1, 1), 0);
    }
}
