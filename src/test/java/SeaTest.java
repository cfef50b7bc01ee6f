/** Promises 1 to 9: a new object, the sea, its cells and lookers. */
public final class SeaTest {
    private static final String THREE = "f43" + "1224" + "2255" + "9022" + ";p1;d0;g2" + "/01";

    public static void main(String[] args) {
        aNewObject();
        seaIsTaken();
        seaAtItsEdges();
        firstFaults();
        seaMakesAllAnew();
        aTextThatIsNotTakenChangesNothing();
        refusalsAndFaultsOfSea();
        lookers();
        heights();
        heaps();
        dims();
        scrapesAndGrows();
        seenCells();
        Due.end();
    }

    private static void aNewObject() {
        HullCharts x = new HullCharts();
        for (int what = 0; what <= 6; what++) Due.due("new many " + what, x.many(what), 0);
        Due.due("new trace", x.trace(), 0);
        Due.due("new fault", x.fault(), 0);
        for (int k = 0; k < 4; k++) Due.due("new lose " + k, x.lose(k), 0);
        Due.due("new height", x.height(0), HullCharts.UNKNOWN);
        Due.due("new heap", x.heap(0, 0), HullCharts.UNKNOWN);
        Due.due("new ofLooker", x.ofLooker(0, 0), HullCharts.UNKNOWN);
        Due.due("new dim", x.dim(0, 0), HullCharts.UNKNOWN);
        Due.due("new scrape", x.scrape(0), HullCharts.UNKNOWN);
        Due.due("new grow", x.grow(0), HullCharts.UNKNOWN);
        Due.due("new seen", x.seen(), HullCharts.LOST);
        Due.due("new step", x.step(0), HullCharts.STATE);
        Due.due("new way", x.way(0, 0), HullCharts.UNKNOWN);
        Due.due("new most", x.most(1, 0), HullCharts.STATE);
        Due.due("new flat", x.flat(0), HullCharts.UNKNOWN);
        Due.due("new voyage", x.voyage(0, 0, 0, 0, 0), HullCharts.STATE);
        Due.due("new begun", x.begun(0, 0, 0, 1, 0, 0), HullCharts.STATE);
        Due.due("new reading", x.reading(0, 0, 0), HullCharts.UNKNOWN);
        Due.due("new back", x.back(0), 0);
        Due.due("new back 1", x.back(1), HullCharts.OUTSIDE);
        Due.due("new shorts", x.shorts(0), HullCharts.UNKNOWN);
        Due.due("new kinds", x.kinds(0), HullCharts.UNKNOWN);
        Due.due("new odds", x.odds(0, 0, 0), HullCharts.LOST);
        Due.due("new tell", x.tell(0), HullCharts.UNKNOWN);
        Due.due("new greet", x.greet(0), HullCharts.UNKNOWN);
        Due.due("new as", x.as(0, 0), HullCharts.UNKNOWN);
    }

    private static void seaIsTaken() {
        for (int lane = 0; lane <= 2; lane++) {
            HullCharts x = new HullCharts();
            int[] codes = Due.codes("xy" + THREE + "z");
            Due.lay(x, 3, lane, codes);
            Due.due("sea from 2 on, lane " + lane, x.sea(3, lane, 2, codes.length - 3), 3);
            Due.due("wide", x.many(0), 4);
            Due.due("long", x.many(1), 3);
            Due.due("lookers", x.many(2), 3);
            Due.due("place", x.many(3), 4);
            Due.due("steps", x.many(4), 0);
            Due.due("cells seen", x.many(5), 3);
            Due.due("readings", x.many(6), 0);
        }
    }

    private static void seaAtItsEdges() {
        HullCharts x = new HullCharts();
        Due.due("the least sea", Due.takeSea(x, "f220000;g9/11"), 1);
        Due.due("its place", x.many(3), 3);
        Due.due("as many lookers as columns", Due.takeSea(x, "f220000;g9;p0/01"), 2);
        Due.due("the greatest sea", Due.takeSea(x, "f66" + "9".repeat(36) + ";p0;d0;g0;p9/25"), 4);
        Due.due("its place", x.many(3), 32);
        Due.due("what it has seen", x.seen(), 15L << 32);
        Due.due("its last cell", x.height(35), 9);
        Due.due("no cell behind it", x.height(36), HullCharts.UNKNOWN);
    }

    private static void firstFaults() {
        fault("", 0);
        fault("g", 0);
        fault("F", 0);
        fault("f", 1);
        fault("f1", 1);
        fault("f7", 1);
        fault("fx", 1);
        fault("f2", 2);
        fault("f21", 2);
        fault("f27", 2);
        fault("f22", 3);
        fault("f22000", 6);
        fault("f22000;", 6);
        fault("f22/", 3);
        fault("f220000", 7);
        fault("f220000/", 7);
        fault("f2200000", 7);
        fault("f220000;", 8);
        fault("f220000;x", 8);
        fault("f220000;P", 8);
        fault("f220000;p", 9);
        fault("f220000;p/", 9);
        fault("f220000;p:", 9);
        fault("f220000;p0", 10);
        fault("f220000;p00", 10);
        fault("f220000;p0;d0;g0/00", 13);
        fault("f220000;p0;d0", 13);
        fault("f220000;p0/", 11);
        fault("f220000;p0/2", 11);
        fault("f220000;p0;d0/1", 14);
        fault("f220000;p0;d0/;", 14);
        fault("f220000;p0/1", 12);
        fault("f220000;p0/12", 12);
        fault("f220000;p0/1.", 12);
        fault("f220000;p0/110", 13);
        fault("f220000;p0/11;", 13);
        fault("f620123456789ab", 13);
        fault("f62" + "0".repeat(12) + ";p0;p0;p0;p0;p0/00", 27);
        fault("f62" + "0".repeat(12) + ";p0;p0;p0;p0/30", 28);
        fault("f62" + "0".repeat(12) + ";p0;p0;p0;p0/22", 29);
        HullCharts x = Due.with("f220000;p0/11");
        for (int n = 0; n < 13; n++) Due.due("what an earlier text had behind " + n, x.sea(0, 0, 0, n), -100 - n);
    }

    private static void fault(String text, int place) {
        HullCharts x = new HullCharts();
        Due.due("sea of " + text, Due.takeSea(x, text), -100 - place);
        Due.due("no sea by " + text, x.many(0), 0);
        Due.due("fault behind " + text, x.fault(), 0);
    }

    private static void seaMakesAllAnew() {
        HullCharts x = Due.with(THREE);
        Due.due("step", x.step(0), 3);
        Due.due("scrape", x.scrape(1), 2);
        Due.due("dim", x.dim(0, 9), 1);
        Due.due("heap", x.heap(0, 9), 1);
        Due.due("reading", x.reading(0, 1, 1), 0);
        Due.due("greet", x.greet(0), 0);
        Due.due("another sea", Due.takeSea(x, "f220120;d3/10"), 1);
        Due.due("trace stays", x.trace(), 4);
        Due.due("wide", x.many(0), 2);
        Due.due("steps", x.many(4), 0);
        Due.due("readings", x.many(6), 0);
        Due.due("seen", x.seen(), 2);
        Due.due("SHORT", x.ofLooker(0, 1), 3);
        Due.due("height", x.height(0), 0);
        Due.due("looker 1", x.ofLooker(1, 0), HullCharts.UNKNOWN);
        Due.due("the sheet stays", x.cell(0, 0, 0), 'f');
        Due.due("three again", Due.takeSea(x, THREE), 3);
        Due.due("not gone", x.ofLooker(1, 2), 0);
    }

    private static void aTextThatIsNotTakenChangesNothing() {
        HullCharts x = Due.with(THREE);
        Due.due("step", x.step(0), 3);
        Due.due("reading", x.reading(0, 1, 1), 0);
        Due.due("a wrong text", Due.takeSea(x, "f220000;p0/12"), -112);
        Due.due("wide", x.many(0), 4);
        Due.due("lookers", x.many(2), 3);
        Due.due("place", x.many(3), 0);
        Due.due("steps", x.many(4), 1);
        Due.due("cells seen", x.many(5), 6);
        Due.due("readings", x.many(6), 1);
        Due.due("height", x.height(8), 9);
    }

    private static void refusalsAndFaultsOfSea() {
        HullCharts x = new HullCharts();
        Due.due("of nothing", x.sea(0, 1, -1, -1), -11);
        Due.due("fault", x.fault(), 1);
        Due.due("no sheet, no lane", x.sea(4, 3, 0, 1), HullCharts.UNKNOWN);
        Due.due("refused", x.fault(), 0);
        Due.due("no sheet", x.sea(-1, 0, 0, 1), HullCharts.UNKNOWN);
        Due.due("no lane", x.sea(0, 3, 0, 1), HullCharts.OUTSIDE);
        Due.due("no lane", x.sea(0, -1, 0, 1), HullCharts.OUTSIDE);
        Due.lay(x, 0, 0, Due.codes("f220000;p0/11"));
        Due.due("another lane", x.sea(0, 1, -1, -1), -12);
        Due.due("fault", x.fault(), 2);
        Due.due("a length below 0", x.sea(0, 0, -1, -1), -14);
        Due.due("fault", x.fault(), 4);
        Due.due("least length", x.sea(0, 0, 0, Integer.MIN_VALUE), -14);
        Due.due("below 0", x.sea(0, 0, -1, 13), -13);
        Due.due("fault", x.fault(), 3);
        Due.due("one too many", x.sea(0, 0, 0, 14), -13);
        Due.due("none at the end", x.sea(0, 0, 13, 0), -100);
        Due.due("none behind the end", x.sea(0, 0, 14, 0), -13);
        Due.due("none ahead", x.sea(0, 0, -1, 0), -13);
        Due.due("a sum that wraps", x.sea(0, 0, 2, Integer.MAX_VALUE), -13);
        Due.due("a sum that wraps", x.sea(0, 0, Integer.MAX_VALUE, Integer.MAX_VALUE), -13);
        Due.due("still no sea", x.many(0), 0);
        Due.due("taken", x.sea(0, 0, 0, 13), 1);
        Due.due("came to none", x.fault(), 0);
    }

    private static void lookers() {
        HullCharts x = Due.with(THREE);
        int[][] want = {{0, 1, 0, 4, 1}, {1, 0, 0, 5, 3}, {2, 2, 0, 6, 8}};
        for (int k = 0; k < 3; k++) {
            for (int what = 0; what <= 4; what++) Due.due("ofLooker " + k + " " + what, x.ofLooker(k, what), want[k][what]);
        }
        Due.due("step down", x.step(2), 3);
        Due.due("over", x.ofLooker(2, 3), 10);
        Due.due("tells 0 at least, and 1 more, twice", x.ofLooker(2, 4), 2);
        Due.due("PLAIN", x.ofLooker(0, 4), 8);
        Due.due("DEEP", x.ofLooker(1, 4), 1);
        Due.due("gone", x.scrape(2), 2);
        Due.due("whether gone", x.ofLooker(2, 2), 1);
        Due.due("tells all the same", x.ofLooker(2, 4), 2);
        Due.due("no looker", x.ofLooker(3, 0), HullCharts.UNKNOWN);
        Due.due("no looker, no what", x.ofLooker(-1, 9), HullCharts.UNKNOWN);
        Due.due("no what", x.ofLooker(0, 5), HullCharts.OUTSIDE);
        Due.due("no what", x.ofLooker(0, -1), HullCharts.OUTSIDE);
    }

    private static void heights() {
        HullCharts x = Due.with(THREE);
        int[] want = {1, 2, 2, 4, 2, 2, 5, 5, 9, 0, 2, 2};
        for (int cell = 0; cell < 12; cell++) Due.due("height " + cell, x.height(cell), want[cell]);
        Due.due("height 12", x.height(12), HullCharts.UNKNOWN);
        Due.due("height -1", x.height(-1), HullCharts.UNKNOWN);
    }

    private static void heaps() {
        HullCharts x = Due.with(THREE);
        Due.due("heap", x.heap(11, 9), 2);
        Due.due("heap again", x.heap(11, 0), 9);
        Due.due("height", x.height(11), 0);
        Due.due("heap under a looker", x.heap(4, 7), 2);
        Due.due("what it tells", x.ofLooker(0, 4), 6);
        Due.due("no cell", x.heap(12, 10), HullCharts.UNKNOWN);
        Due.due("no cell", x.heap(-1, 0), HullCharts.UNKNOWN);
        Due.due("too high", x.heap(0, 10), HullCharts.OUTSIDE);
        Due.due("too low", x.heap(0, -1), HullCharts.OUTSIDE);
        Due.due("unchanged", x.height(0), 1);
    }

    private static void dims() {
        HullCharts x = Due.with(THREE);
        Due.due("dim", x.dim(1, 9), 0);
        Due.due("dim again", x.dim(1, 0), 9);
        Due.due("dim 2", x.dim(2, 5), 2);
        Due.due("SHORT", x.ofLooker(2, 1), 5);
        Due.due("what it tells", x.ofLooker(2, 4), 2);
        Due.due("no looker", x.dim(3, 10), HullCharts.UNKNOWN);
        Due.due("no looker", x.dim(-1, 0), HullCharts.UNKNOWN);
        Due.due("too far", x.dim(0, 10), HullCharts.OUTSIDE);
        Due.due("too near", x.dim(0, -1), HullCharts.OUTSIDE);
        Due.due("unchanged", x.ofLooker(0, 1), 1);
    }

    private static void scrapesAndGrows() {
        HullCharts x = Due.with(THREE);
        Due.due("not gone", x.grow(0), HullCharts.STATE);
        Due.due("scrape", x.scrape(0), 2);
        Due.due("gone already", x.scrape(0), HullCharts.STATE);
        Due.due("seen stays", x.seen(), 0x70);
        Due.due("its step", x.step(0), 2);
        Due.due("not seen by one who is gone", x.seen(), 0x76);
        Due.due("the place is told all the same", x.many(3), 0);
        Due.due("scrape all", x.scrape(2), 1);
        Due.due("scrape all", x.scrape(1), 0);
        Due.due("nothing is seen", x.step(2), 0);
        Due.due("back up", x.step(0), 0);
        Due.due("grow", x.grow(0), 1);
        Due.due("it sees", x.seen(), 0x77);
        Due.due("not gone", x.ofLooker(0, 2), 0);
        Due.due("grow", x.grow(2), 2);
        Due.due("others stay gone", x.ofLooker(1, 2), 1);
        Due.due("not gone now", x.grow(2), HullCharts.STATE);
        Due.due("no looker", x.scrape(3), HullCharts.UNKNOWN);
        Due.due("no looker", x.scrape(-1), HullCharts.UNKNOWN);
        Due.due("no looker", x.scrape(32), HullCharts.UNKNOWN);
        Due.due("no looker", x.grow(3), HullCharts.UNKNOWN);
        Due.due("no looker", x.grow(-1), HullCharts.UNKNOWN);
    }

    private static void seenCells() {
        HullCharts x = Due.with("f66" + "0".repeat(36) + ";p0/55");
        Due.due("the last cell", x.seen(), 1L << 35);
        Due.due("up", x.step(0), 1);
        Due.due("both", x.seen(), 1L << 35 | 1L << 29);
        Due.due("down again", x.step(2), 0);
        Due.due("both", x.seen(), 1L << 35 | 1L << 29);
    }
}
