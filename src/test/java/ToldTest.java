/** Promises 17 to 21: readings, what they leave open, odds. */
public final class ToldTest {
    private static final String THREE = "f43" + "1224" + "2255" + "9022" + ";p1;d0;g2" + "/01";

    public static void main(String[] args) {
        readings();
        backs();
        shorts();
        kinds();
        whatIsSoHangsOnAll();
        odds();
        oddsAtTheirEdges();
        Due.end();
    }

    private static void readings() {
        HullCharts x = Due.with(THREE);
        Due.due("no looker", x.reading(3, 10, 21), HullCharts.UNKNOWN);
        Due.due("no looker", x.reading(-1, 0, 0), HullCharts.UNKNOWN);
        for (int r = 0; r < 8; r++) {
            Due.due("reading " + r, x.reading(r % 3, r % 2 * 9, r % 2 * 20), r);
            Due.due("how many", x.many(6), r + 1);
        }
        Due.due("full", x.reading(0, 0, 0), HullCharts.FULL);
        Due.due("no looker ahead of full", x.reading(3, 0, 0), HullCharts.UNKNOWN);
        Due.due("height ahead of full", x.reading(0, 10, 0), HullCharts.OUTSIDE);
        Due.due("height", x.reading(0, -1, 0), HullCharts.OUTSIDE);
        Due.due("number", x.reading(0, 0, 21), HullCharts.OUTSIDE);
        Due.due("number", x.reading(0, 0, -1), HullCharts.OUTSIDE);
        Due.due("how many", x.many(6), 8);
    }

    private static void backs() {
        HullCharts x = Due.with(THREE);
        Due.due("reading", x.reading(0, 5, 4), 0);
        Due.due("reading", x.reading(0, 5, 3), 1);
        Due.due("reading", x.reading(0, 5, 2), 2);
        Due.due("too many", x.back(4), HullCharts.OUTSIDE);
        Due.due("below 0", x.back(-1), HullCharts.OUTSIDE);
        Due.due("none", x.back(0), 3);
        Due.due("not all so", x.shorts(0), 0);
        Due.due("the last two", x.back(2), 1);
        Due.due("the first is left", x.shorts(0), 1 << 1);
        Due.due("numbered on", x.reading(0, 6, 5), 1);
        Due.due("all", x.back(2), 0);
        Due.due("none is left", x.many(6), 0);
        Due.due("anything is so", x.shorts(0), 1023);
    }

    private static void shorts() {
        HullCharts x = Due.with(THREE);
        for (int k = 0; k < 3; k++) Due.due("no readings", x.shorts(k), 1023);
        Due.due("nothing told", x.reading(0, 4, 0), 0);
        Due.due("4 and beyond", x.shorts(0), 0x3F0);
        Due.due("a DEEP one", Due.takeSea(x, THREE), 3);
        Due.due("reading", x.reading(1, 6, 4), 0);
        Due.due("3", x.shorts(1), 1 << 3);
        Due.due("a GRAND one", Due.takeSea(x, THREE), 3);
        Due.due("reading", x.reading(2, 9, 16), 0);
        Due.due("2", x.shorts(2), 1 << 2);
        Due.due("an odd number", x.reading(2, 9, 15), 1);
        Due.due("none", x.shorts(2), 0);
        Due.due("no looker", x.shorts(3), HullCharts.UNKNOWN);
        Due.due("no looker", x.shorts(-1), HullCharts.UNKNOWN);
    }

    private static void kinds() {
        HullCharts x = Due.with(THREE);
        for (int k = 0; k < 3; k++) Due.due("no readings", x.kinds(k), 7);
        Due.due("reading", x.reading(0, 5, 4), 0);
        Due.due("PLAIN", x.kinds(0), 1);
        Due.due("back", x.back(1), 0);
        Due.due("reading", x.reading(0, 5, 5), 0);
        Due.due("DEEP", x.kinds(0), 2);
        Due.due("back", x.back(1), 0);
        Due.due("reading", x.reading(0, 5, 10), 0);
        Due.due("GRAND", x.kinds(0), 4);
        Due.due("reading", x.reading(0, 5, 4), 1);
        Due.due("none", x.kinds(0), 0);
        Due.due("no looker", x.kinds(3), HullCharts.UNKNOWN);
        Due.due("no looker", x.kinds(-1), HullCharts.UNKNOWN);
    }

    private static void whatIsSoHangsOnAll() {
        HullCharts x = Due.with(THREE);
        Due.due("true of looker 0", x.reading(0, 5, 4), 0);
        Due.due("so others may be anything", x.shorts(1), 1023);
        Due.due("so others may be anything", x.kinds(2), 7);
        Due.due("no longer so", x.dim(0, 2), 1);
        Due.due("so nothing of another helps", x.shorts(1), 0);
        Due.due("so nothing of another helps", x.kinds(2), 0);
        Due.due("but in its own place it does", x.shorts(0), 1 << 1);
        Due.due("and a DEEP one would tell 4", x.kinds(0), 2);
        Due.due("GONE or not", x.scrape(0), 2);
        Due.due("GONE or not", x.kinds(0), 2);
    }

    private static void share(HullCharts x, int k, int v, long upper, long lower) {
        Due.due("odds of " + k + ", " + v + ", upper", x.odds(k, v, 0), upper);
        Due.due("odds of " + k + ", " + v + ", lower", x.odds(k, v, 1), lower);
    }

    private static void odds() {
        HullCharts x = Due.with(THREE);
        share(x, 0, 0, 1, 1);
        share(x, 0, 1, 2, 3);
        share(x, 0, 3, 1, 6);
        share(x, 0, 9, 0, 1);
        share(x, 1, 3, 5, 6);
        share(x, 1, 4, 1, 6);
        share(x, 2, 3, 1, 2);
        share(x, 2, 7, 1, 3);
        Due.due("GONE or not", x.scrape(1), 2);
        share(x, 1, 3, 5, 6);
        Due.due("the place counts for nothing", x.step(1), 1);
        share(x, 1, 3, 5, 6);
        Due.due("dim", x.dim(1, 9), 0);
        share(x, 1, 1, 1, 1);
        share(x, 1, 2, 0, 1);
        Due.due("36 places", Due.takeSea(x, "f66" + "0".repeat(35) + "9;p0/00"), 1);
        share(x, 0, 9, 1, 36);
        Due.due("heap", x.heap(0, 9), 0);
        share(x, 0, 9, 1, 18);
        Due.due("heap", x.heap(1, 9), 0);
        share(x, 0, 9, 1, 12);
        Due.due("20 is the most", Due.takeSea(x, "f229000;g0/00"), 1);
        share(x, 0, 20, 1, 4);
    }

    private static void oddsAtTheirEdges() {
        HullCharts x = Due.with(THREE);
        Due.due("no looker", x.odds(3, 0, 0), HullCharts.LOST);
        Due.due("no looker", x.odds(-1, 0, 0), HullCharts.LOST);
        Due.due("v", x.odds(0, 21, 0), HullCharts.LOST);
        Due.due("v", x.odds(0, -1, 0), HullCharts.LOST);
        Due.due("which", x.odds(0, 0, 2), HullCharts.LOST);
        Due.due("which", x.odds(0, 0, -1), HullCharts.LOST);
        share(x, 0, 20, 0, 1);
    }
}
