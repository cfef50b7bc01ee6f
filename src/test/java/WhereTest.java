/** Promises 12 to 16: ways, the most, flats, begins, runs. */
public final class WhereTest {
    private static final String THREE = "f43" + "1224" + "2255" + "9022" + ";p1;d0;g2" + "/01";

    public static void main(String[] args) {
        ways();
        waysThereAreNone();
        waysAtTheirEdges();
        most();
        mostAtItsEdges();
        flats();
        begins();
        beginsOfThoseLeft();
        beginsRefused();
        runs();
        runsRefused();
        Due.end();
    }

    private static void way(HullCharts x, int cell, int... steps) {
        Due.due("way to " + cell, x.way(cell, -1), steps.length);
        for (int k = 0; k <= 9; k++) {
            Due.due("way to " + cell + ", step " + k, x.way(cell, k), k < steps.length ? steps[k] : HullCharts.NONE);
        }
    }

    private static void ways() {
        HullCharts x = Due.with("f66" + "0".repeat(36) + ";p0;p0/22");
        way(x, 14);
        way(x, 15);
        way(x, 13, 3);
        way(x, 16, 1);
        way(x, 8, 0);
        way(x, 9, 0);
        way(x, 20, 2);
        way(x, 4, 0, 0, 1);
        way(x, 0, 0, 0, 3, 3);
        way(x, 35, 1, 1, 2, 2, 2);
        way(x, 30, 2, 2, 2, 3, 3);
        Due.due("scrape", x.scrape(1), 1);
        way(x, 15, 1);
        Due.due("as near on both sides", Due.takeSea(x, "f62" + "0".repeat(12) + ";p0;p0;p0/20"), 3);
        Due.due("scrape", x.scrape(1), 2);
        way(x, 3, 1);
        way(x, 9, 1, 2);
        Due.due("down", x.step(2), 2);
        way(x, 3, 0, 1);
    }

    private static void waysThereAreNone() {
        HullCharts x = Due.with("f220000;p0;d0/00");
        Due.due("scrape", x.scrape(1), 1);
        Due.due("one who is gone is in the way", x.way(1, -1), HullCharts.NONE);
        Due.due("one who is gone is in the way", x.way(3, -1), HullCharts.NONE);
        way(x, 2, 2);
        Due.due("grow", x.grow(1), 2);
        Due.due("scrape", x.scrape(0), 1);
        Due.due("none", x.way(0, -1), HullCharts.NONE);
        Due.due("none", x.way(0, 0), HullCharts.NONE);
        Due.due("none", x.way(2, -1), HullCharts.NONE);
        way(x, 3, 2);
        Due.due("scrape", x.scrape(1), 0);
        Due.due("all gone", x.way(1, -1), HullCharts.NONE);
        Due.due("all gone", x.way(1, 0), HullCharts.NONE);
    }

    private static void waysAtTheirEdges() {
        HullCharts x = Due.with("f66" + "0".repeat(36) + ";p0/05");
        way(x, 5, 0, 0, 0, 0, 0, 1, 1, 1, 1, 1);
        Due.due("no cell", x.way(36, 99), HullCharts.UNKNOWN);
        Due.due("no cell", x.way(-1, 0), HullCharts.UNKNOWN);
        Due.due("k", x.way(0, 10), HullCharts.OUTSIDE);
        Due.due("k", x.way(0, -2), HullCharts.OUTSIDE);
        Due.due("place", x.many(3), 30);
    }

    private static void mostOf(HullCharts x, int n, int cells, int... steps) {
        Due.due("most of " + n, x.most(n, -1), cells);
        for (int k = 0; k <= 4; k++) {
            Due.due("most of " + n + ", step " + k, x.most(n, k), k < n ? steps[k] : HullCharts.NONE);
        }
    }

    private static void most() {
        HullCharts x = Due.with(THREE);
        mostOf(x, 1, 3, 0);
        mostOf(x, 2, 4, 0, 1);
        mostOf(x, 3, 6, 0, 2, 2);
        mostOf(x, 4, 8, 0, 1, 2, 2);
        mostOf(x, 5, 9, 0, 1, 2, 2, 3);
        Due.due("nothing is changed", x.seen(), 0x70);
        Due.due("nothing is changed", x.many(3), 4);
        Due.due("scrape", x.scrape(0), 2);
        Due.due("scrape", x.scrape(1), 1);
        mostOf(x, 1, 1, 0);
        mostOf(x, 2, 2, 0, 1);
        Due.due("scrape", x.scrape(2), 0);
        mostOf(x, 5, 0, 0, 1, 2, 0, 2);
        Due.due("nothing in the way", Due.takeSea(x, "f66" + "0".repeat(36) + ";p0/22"), 1);
        mostOf(x, 1, 1, 0);
        mostOf(x, 2, 2, 0, 0);
        mostOf(x, 5, 5, 0, 0, 1, 1, 1);
        Due.due("in a corner", Due.takeSea(x, "f62" + "0".repeat(12) + ";p0/51"), 1);
        mostOf(x, 5, 5, 0, 3, 2, 3, 0);
        Due.due("up", x.step(0), 1);
        mostOf(x, 1, 1, 3);
        mostOf(x, 5, 5, 3, 2, 3, 0, 3);
    }

    private static void mostAtItsEdges() {
        HullCharts x = Due.with(THREE);
        Due.due("n", x.most(0, 0), HullCharts.OUTSIDE);
        Due.due("n", x.most(6, 0), HullCharts.OUTSIDE);
        Due.due("k", x.most(1, -2), HullCharts.OUTSIDE);
        Due.due("k", x.most(1, 5), HullCharts.OUTSIDE);
        Due.due("n ahead of no sea", new HullCharts().most(0, 0), HullCharts.OUTSIDE);
        Due.due("k ahead of no sea", new HullCharts().most(1, 5), HullCharts.OUTSIDE);
        Due.due("no sea", new HullCharts().most(1, 4), HullCharts.STATE);
    }

    private static void flats() {
        HullCharts x = Due.with(THREE);
        int[] want = {1, 4, 4, 1, 4, 4, 2, 2, 1, 1, 2, 2};
        for (int cell = 0; cell < 12; cell++) Due.due("flat " + cell, x.flat(cell), want[cell]);
        Due.due("heap", x.heap(6, 2), 5);
        Due.due("they hang together now", x.flat(11), 7);
        Due.due("no cell", x.flat(12), HullCharts.UNKNOWN);
        Due.due("no cell", x.flat(-1), HullCharts.UNKNOWN);
        Due.due("rows do not hang together at their ends", Due.takeSea(x, "f22" + "0110" + ";p0/00"), 1);
        for (int cell = 0; cell < 4; cell++) Due.due("flat " + cell, x.flat(cell), 1);
        Due.due("a row's end and the next one's begin", Due.takeSea(x, "f32" + "005" + "577" + ";p0/00"), 1);
        Due.due("end", x.flat(2), 1);
        Due.due("begin", x.flat(3), 1);
        String winding = "111111" + "000001" + "111101" + "100101" + "101101" + "100001";
        Due.due("a winding one", Due.takeSea(x, "f66" + winding + ";p0/00"), 1);
        Due.due("of 0", x.flat(6), 15);
        Due.due("of 1", x.flat(0), 11);
        Due.due("of 1 inside", x.flat(12), 10);
        Due.due("all", Due.takeSea(x, "f66" + "3".repeat(36) + ";p0/00"), 1);
        Due.due("flat of all", x.flat(35), 36);
    }

    private static void begunIs(HullCharts x, int i, int n, int sort, int count, int least, int greatest) {
        String call = "begun from " + i + " on, " + n + " rows by " + sort;
        Due.due(call + ", how many", x.begun(1, 2, i, n, sort, 0), count);
        Due.due(call + ", least", x.begun(1, 2, i, n, sort, 1), least);
        Due.due(call + ", greatest", x.begun(1, 2, i, n, sort, 2), greatest);
    }

    private static void begins() {
        HullCharts x = Due.with("f33" + "123" + "123" + "123" + ";p0;p0/00");
        Due.lay(x, 1, 2, 1, 2, 2, 3, 1, 2, 1, 2, 1, 2, 9, 9);
        begunIs(x, 0, 1, 0, 3, 0, 6);
        begunIs(x, 0, 2, 1, 3, 0, 6);
        begunIs(x, 2, 2, 3, 3, 1, 7);
        begunIs(x, 4, 2, 0, 2, 3, 6);
        begunIs(x, 4, 2, 2, 2, 0, 3);
        begunIs(x, 4, 3, 2, 1, 0, 0);
        begunIs(x, 4, 3, 0, 1, 6, 6);
        begunIs(x, 4, 3, 1, 0, HullCharts.NONE, HullCharts.NONE);
        begunIs(x, 10, 1, 1, 0, HullCharts.NONE, HullCharts.NONE);
        begunIs(x, 0, 6, 1, 0, HullCharts.NONE, HullCharts.NONE);
        begunIs(x, 1, 1, 1, 0, HullCharts.NONE, HullCharts.NONE);
        begunIs(x, 5, 1, 1, 0, HullCharts.NONE, HullCharts.NONE);
        Due.due("the place counts for nothing", x.step(1), 1);
        begunIs(x, 4, 3, 2, 1, 0, 0);
        Due.due("six rows", Due.takeSea(x, "f66" + "0".repeat(36) + ";p0;p0;p0;p0/00"), 4);
        Due.lay(x, 1, 2, new int[24]);
        begunIs(x, 0, 6, 2, 3, 0, 2);
        begunIs(x, 0, 6, 0, 3, 30, 32);
        begunIs(x, 0, 3, 1, 6, 0, 30);
        begunIs(x, 0, 1, 1, 18, 0, 32);
    }

    private static void beginsOfThoseLeft() {
        HullCharts x = Due.with("f33" + "123" + "123" + "123" + ";p0;p0/00");
        Due.lay(x, 1, 2, 2, 7, 1, 7);
        begunIs(x, 0, 2, 3, 0, HullCharts.NONE, HullCharts.NONE);
        Due.due("scrape", x.scrape(1), 1);
        begunIs(x, 0, 2, 3, 3, 1, 7);
        Due.due("scrape", x.scrape(0), 0);
        begunIs(x, 0, 2, 3, 3, 1, 7);
        begunIs(x, 0, 1, 3, 6, 0, 7);
    }

    private static void beginsRefused() {
        HullCharts x = new HullCharts();
        Due.due("no sheet", x.begun(4, 3, 0, 0, 4, 3), HullCharts.UNKNOWN);
        Due.due("no sheet", x.begun(-1, 0, 0, 1, 0, 0), HullCharts.UNKNOWN);
        Due.due("outside", x.begun(0, 3, 0, 1, 0, 0), HullCharts.OUTSIDE);
        Due.due("no sea", x.begun(0, 0, 0, 1, 0, 0), HullCharts.STATE);
        x = Due.with("f33" + "123" + "123" + "123" + ";p0;p0/00");
        Due.due("nothing", x.begun(1, 2, -1, 1, 0, 0), -11);
        Due.due("fault", x.fault(), 1);
        Due.lay(x, 1, 2, 1, 2, 3);
        Due.refusedAll("outside", new int[] {x.begun(1, -1, 0, 1, 0, 0), x.begun(1, 2, 0, 0, 0, 0), x.begun(1, 2, 0, 7, 0, 0),
            x.begun(1, 2, 0, 1, 4, 0), x.begun(1, 2, 0, 1, -1, 0), x.begun(1, 2, 0, 1, 0, 3), x.begun(1, 2, 0, 1, 0, -1)},
            HullCharts.OUTSIDE);
        Due.due("refused", x.fault(), 0);
        Due.due("cast ahead of index", x.begun(1, 1, 9, 1, 0, 0), -12);
        Due.due("fault", x.fault(), 2);
        Due.due("a row for each looker", x.begun(1, 2, 1, 1, 0, 0), 3);
        Due.due("index", x.begun(1, 2, 2, 1, 0, 0), -13);
        Due.due("fault", x.fault(), 3);
        Due.due("index", x.begun(1, 2, 0, 2, 0, 0), -13);
        Due.due("index", x.begun(1, 2, -1, 1, 0, 0), -13);
        Due.due("index", x.begun(1, 2, Integer.MAX_VALUE, 6, 0, 0), -13);
        Due.due("one who is gone has its numbers, too", x.scrape(0), 1);
        Due.due("index", x.begun(1, 2, 2, 1, 0, 0), -13);
    }

    private static void runIs(HullCharts x, int i, int n, int length, int next) {
        Due.due("run from " + i + " on, " + n, x.run(1, 2, i, n, 0), length);
        Due.due("next from " + i + " on, " + n, x.run(1, 2, i, n, 1), next);
    }

    private static void runs() {
        HullCharts x = new HullCharts();
        Due.lay(x, 1, 2, 7, 7, 7, 1, 2, 1, 2, 1, 3, Integer.MIN_VALUE, -4, Integer.MIN_VALUE);
        runIs(x, 0, 1, 1, 7);
        runIs(x, 0, 3, 1, 7);
        runIs(x, 0, 4, 4, 7);
        runIs(x, 3, 2, 2, 1);
        runIs(x, 3, 3, 2, 2);
        runIs(x, 3, 4, 2, 1);
        runIs(x, 3, 5, 2, 2);
        runIs(x, 3, 6, 6, 1);
        runIs(x, 2, 3, 3, 7);
        runIs(x, 9, 3, 2, -4);
        int[] forty = new int[41];
        for (int p = 0; p < 41; p++) forty[p] = p % 39;
        Due.lay(x, 1, 2, forty);
        runIs(x, 0, 39, 39, 0);
        runIs(x, 0, 40, 39, 1);
        Due.lay(x, 1, 2, 1, 2, 1, 1, 2, 1, 1, 2);
        runIs(x, 0, 8, 3, 1);
        runIs(x, 0, 4, 3, 2);
    }

    private static void runsRefused() {
        HullCharts x = new HullCharts();
        Due.due("no sheet", x.run(4, 3, 0, 0, 0), HullCharts.UNKNOWN);
        Due.due("no sheet", x.run(-1, 0, 0, 1, 0), HullCharts.UNKNOWN);
        Due.due("nothing", x.run(1, 1, -1, 1, 0), -11);
        Due.due("fault", x.fault(), 1);
        Due.lay(x, 1, 1, 1, 2, 3);
        Due.refusedAll("outside", new int[] {x.run(1, 3, 0, 1, 0), x.run(1, -1, 0, 1, 0), x.run(1, 1, 0, 0, 0),
            x.run(1, 1, 0, 41, 0), x.run(1, 1, 0, -1, 0), x.run(1, 1, 0, 1, 2), x.run(1, 1, 0, 1, -1)}, HullCharts.OUTSIDE);
        Due.due("refused", x.fault(), 0);
        Due.due("cast ahead of index", x.run(1, 0, 9, 1, 0), -12);
        Due.due("fault", x.fault(), 2);
        Due.due("index", x.run(1, 1, 0, 4, 0), -13);
        Due.due("fault", x.fault(), 3);
        Due.due("index", x.run(1, 1, -1, 1, 0), -13);
        Due.due("index", x.run(1, 1, 3, 1, 0), -13);
        Due.due("the last", x.run(1, 1, 2, 1, 1), 3);
        Due.due("came to none", x.fault(), 0);
    }
}
