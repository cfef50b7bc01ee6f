/** Promises 1 to 9 at their edges: no SEA, lookers, heights, SHORTS, scraped, grown, seen; a SEA that is made anew. */
public final class SeaEdgesTest {
    private static final String LEAST = "f220120;d3/10";
    private static final String GREATEST = "f66" + "0".repeat(35) + "9" + ";p0;d1;g2;p9/25";
    private static final int UNKNOWN = HullCharts.UNKNOWN;
    private static final int OUTSIDE = HullCharts.OUTSIDE;
    private static final int STATE = HullCharts.STATE;
    private static final long LOST = HullCharts.LOST;

    private SeaEdgesTest() {
    }

    public static void main(String[] args) {
        aNewObjectHasNoSea();
        aNewObjectHasNoSheets();
        sheetsAloneAreNoSea();
        objectsAreApart();
        seaAnewEndsSteps();
        seaAnewEndsThatLookersAreGone();
        seaAnewEndsWhatWasSeen();
        seaAnewEndsReadings();
        seaAnewLeavesTrace();
        seaAnewLeavesSheets();
        seaAnewIsSmaller();
        seaAnewIsGreater();
        theSameSeaAgain();
        aTextThatIsNotTakenChangesNothing();
        seaIsKeptWhenItsSheetChanges();
        lookersOfTheLeastSea();
        lookersOfTheGreatestSea();
        whatOfALooker();
        overAtEachSide();
        tellsAboutItsShort();
        tellsAtTheGreatest();
        tellsThoughGone();
        cellsOfTheLeastSea();
        cellsOfTheGreatestSea();
        heapAtItsEdges();
        heapTellsWhatItWas();
        heapChangesOneCell();
        dimAtItsEdges();
        dimTellsWhatItWas();
        dimChangesOneLooker();
        scrapeOneAndAll();
        scrapeTwice();
        scrapeLeavesWhatWasSeen();
        growOneAndAll();
        growTwice();
        growSeesWhatItIsOverNow();
        growSeesForItselfAlone();
        seenHasTheFirstAndTheLastCell();
        seenOfAllCells();
        seenGrowsAlone();
        Due.end();
    }

    private static void noSea(Ship ship) {
        for (int what = 0; what <= 6; what++) ship.due("many " + what, 0);
        ship.due("many -1", OUTSIDE).due("many 7", OUTSIDE).due("seen", LOST);
        ship.due("height 0", UNKNOWN).due("heap 0 0", UNKNOWN).due("flat 0", UNKNOWN).due("way 0 -1", UNKNOWN);
        for (String call : new String[] {"ofLooker 0 0", "dim 0 0", "scrape 0", "grow 0", "reading 0 0 0", "shorts 0", "kinds 0",
            "tell 0", "greet 0", "as 0 0"}) ship.due(call, UNKNOWN);
        ship.due("odds 0 0 0", LOST).due("step 0", STATE).due("most 1 -1", STATE);
        ship.due("voyage 0 0 0 0 0", STATE).due("begun 0 0 0 1 0 0", STATE).due("back 0", 0).due("back 1", OUTSIDE);
    }

    private static void aNewObjectHasNoSea() {
        noSea(new Ship());
        new Ship().due("trace", 0).due("fault", 0);
    }

    private static void aNewObjectHasNoSheets() {
        Ship ship = new Ship();
        for (int k = 0; k <= 3; k++) {
            ship.nothing(k).due("put " + k + " 0 0", -11, 1).due("lose " + k, 0);
            ship.due("sea " + k + " 0 0 0", -11, 1).due("run " + k + " 0 0 1 0", -11, 1).due("copy " + k + " 0 " + k + " 0 0", -11, 1);
        }
    }

    private static void sheetsAloneAreNoSea() {
        noSea(new Ship().text(0, 0, LEAST).row(1, 1, 0, 1, 2).row(2, 2));
        noSea(new Ship().text(0, 0, LEAST).due("sea 0 0 0 12", -112));
    }

    private static void objectsAreApart() {
        Ship one = Ship.over(LEAST);
        Ship other = new Ship();
        noSea(other);
        other.nothing(0);
        one.due("greet 0", 0).due("trace", 4).due("many 0", 2);
        other.due("trace", 0);
    }

    private static Ship anew(Ship ship, String text, int lookers) {
        return ship.text(3, 2, text).due("sea 3 2 0 " + text.length(), lookers, 0);
    }

    private static void seaAnewEndsSteps() {
        Ship ship = Ship.over(LEAST).due("step 2", 1).due("many 4", 1);
        anew(ship, LEAST, 1).due("many 4", 0).due("many 3", 1);
    }

    private static void seaAnewEndsThatLookersAreGone() {
        Ship ship = Ship.over("f220120;d3;g1/00").due("scrape 0", 1).due("scrape 1", 0);
        anew(ship, "f220120;d3;g1/00", 2).due("ofLooker 0 2", 0).due("ofLooker 1 2", 0).due("scrape 0", 1).due("grow 1", STATE);
    }

    private static void seaAnewEndsWhatWasSeen() {
        Ship ship = Ship.over(LEAST).due("step 2", 1).due("step 3", 1).due("seen", 14);
        anew(ship, LEAST, 1).due("seen", 2).due("many 5", 1);
        anew(ship, "f220120;d3;g1/01", 2).due("seen", 12).due("many 5", 2);
    }

    private static void seaAnewEndsReadings() {
        Ship ship = Ship.over(LEAST);
        for (int r = 0; r < 8; r++) ship.due("reading 0 0 0", r);
        ship.due("reading 0 0 0", HullCharts.FULL).due("shorts 0", 0);
        anew(ship, LEAST, 1).due("many 6", 0).due("back 1", OUTSIDE).due("shorts 0", 1023).due("kinds 0", 7).due("reading 0 9 7", 0);
    }

    private static void seaAnewLeavesTrace() {
        Ship ship = Ship.over(LEAST).due("tell 0", 103).due("trace", 63);
        anew(ship, LEAST, 1).due("trace", 63).due("greet 0", 0).due("trace", 63 * 31 + 4);
    }

    private static void seaAnewLeavesSheets() {
        Ship ship = Ship.over(LEAST).row(1, 1, 300, -300).row(2, 0);
        anew(ship, GREATEST, 4);
        ship.rowIs(0, 0, Due.codes(LEAST)).rowIs(1, 1, 300, -300).rowIs(2, 0).rowIs(3, 2, Due.codes(GREATEST));
    }

    private static void seaAnewIsSmaller() {
        Ship ship = Ship.over(GREATEST);
        anew(ship, LEAST, 1).due("many 0", 2).due("many 1", 2).due("many 2", 1).due("many 3", 1).due("height 3", 0);
        ship.due("height 4", UNKNOWN).due("height 35", UNKNOWN).due("ofLooker 1 0", UNKNOWN).due("flat 3", 1).due("way 4 -1", UNKNOWN);
        ship.due("scrape 1", UNKNOWN).due("ofLooker 0 0", 1).due("ofLooker 0 1", 3).due("step 1", STATE).due("step 2", 1).due("step 2", STATE);
    }

    private static void seaAnewIsGreater() {
        Ship ship = Ship.over(LEAST).due("heap 0 9", 0).due("dim 0 9", 3);
        anew(ship, GREATEST, 4).due("many 0", 6).due("many 1", 6).due("many 2", 4).due("many 3", 32);
        ship.due("height 0", 0).due("height 35", 9).due("ofLooker 0 1", 0).due("ofLooker 3 1", 9).due("ofLooker 3 3", 35);
    }

    private static void theSameSeaAgain() {
        Ship ship = Ship.over(LEAST).due("heap 3 5", 0).due("dim 0 0", 3);
        ship.due("sea 0 0 0 13", 1, 0).due("height 3", 0).due("ofLooker 0 1", 3);
    }

    private static void aTextThatIsNotTakenChangesNothing() {
        Ship ship = Ship.over(LEAST).due("step 2", 1).due("scrape 0", 0).due("reading 0 0 0", 0).due("heap 0 5", 0);
        ship.due("sea 0 0 0 12", -112, 0).due("sea 0 0 0 0", -100, 0).due("sea 0 0 1 12", -100, 0);
        ship.due("many 3", 3).due("many 4", 1).due("many 5", 2).due("many 6", 1).due("ofLooker 0 2", 1).due("height 0", 5);
    }

    private static void seaIsKeptWhenItsSheetChanges() {
        Ship ship = Ship.over(LEAST).due("put 0 3 57", 1).due("height 0", 0).due("lose 0", 1).due("height 1", 1).due("many 2", 1);
        ship.due("heap 1 7", 1).due("sheet 0 0 4", 1).due("height 1", 7).due("cell 0 3 0", 0);
    }

    private static void lookersOfTheLeastSea() {
        Ship ship = Ship.over(LEAST);
        for (String call : new String[] {"ofLooker X 0", "dim X 0", "scrape X", "grow X", "shorts X", "kinds X", "tell X", "greet X", "as X 0"}) {
            for (String k : new String[] {"MIN", "-1", "1", "4", "32", "MAX"}) ship.due(call.replace("X", k), UNKNOWN);
        }
        ship.due("ofLooker 0 0", 1).due("ofLooker 0 2", 0).due("many 2", 1).due("trace", 0);
    }

    private static void lookersOfTheGreatestSea() {
        Ship ship = Ship.over(GREATEST);
        for (String call : new String[] {"ofLooker X 0", "dim X 0", "scrape X", "grow X", "shorts X", "kinds X", "tell X", "greet X", "as X 0"}) {
            for (String k : new String[] {"MIN", "-1", "4", "32", "36", "MAX"}) ship.due(call.replace("X", k), UNKNOWN);
        }
        for (int k = 0; k <= 3; k++) ship.due("ofLooker " + k + " 3", 32 + k).due("ofLooker " + k + " 2", 0);
    }

    private static void whatOfALooker() {
        Ship ship = Ship.over("f32" + "123456" + ";g7;p2/11");
        ship.due("ofLooker 0 MIN", OUTSIDE).due("ofLooker 0 -1", OUTSIDE).due("ofLooker 0 0", 2).due("ofLooker 0 1", 7);
        ship.due("ofLooker 0 2", 0).due("ofLooker 0 3", 4).due("ofLooker 0 4", 2).due("ofLooker 0 5", OUTSIDE).due("ofLooker 0 MAX", OUTSIDE);
        ship.due("ofLooker 1 4", 4).due("ofLooker 2 5", UNKNOWN).due("ofLooker -1 -1", UNKNOWN);
    }

    private static void overAtEachSide() {
        Ship.over("f66" + "0".repeat(36) + ";p0/00").due("ofLooker 0 3", 0).due("many 3", 0);
        Ship.over("f66" + "0".repeat(36) + ";p0/50").due("ofLooker 0 3", 5).due("many 3", 5);
        Ship.over("f66" + "0".repeat(36) + ";p0/05").due("ofLooker 0 3", 30).due("many 3", 30);
        Ship.over("f66" + "0".repeat(36) + ";p0/55").due("ofLooker 0 3", 35).due("many 3", 35);
        Ship.over("f22" + "0000" + ";p0;p0/01").due("ofLooker 0 3", 2).due("ofLooker 1 3", 3).due("many 3", 2);
    }

    /** HEIGHT one below, at, and one above SHORT, and the farthest below and above. */
    private static void tellsAboutItsShort() {
        int[][] heightShortPlain = {{0, 0, 0}, {0, 1, 0}, {1, 0, 1}, {4, 5, 0}, {5, 5, 0}, {6, 5, 1}, {0, 9, 0}, {8, 9, 0}, {9, 9, 0}, {9, 8, 1}, {9, 0, 9}};
        for (int[] one : heightShortPlain) {
            Ship ship = Ship.over("f32" + ("" + one[0]).repeat(6) + ";p" + one[1] + ";d" + one[1] + ";g" + one[1] + "/00");
            ship.due("ofLooker 0 4", one[2]).due("ofLooker 1 4", one[2] + 1).due("ofLooker 2 4", 2 * (one[2] + 1));
        }
    }

    private static void tellsAtTheGreatest() {
        Ship.over("f32" + "999999" + ";p0;d0;g0/00").due("ofLooker 0 4", 9).due("ofLooker 1 4", 10).due("ofLooker 2 4", 20);
    }

    private static void tellsThoughGone() {
        Ship ship = Ship.over("f32" + "999999" + ";p0;d0;g0/00");
        for (int k = 0; k <= 2; k++) ship.due("scrape " + k, 2 - k);
        ship.due("ofLooker 0 4", 9).due("ofLooker 1 4", 10).due("ofLooker 2 4", 20).due("ofLooker 1 3", 1).due("ofLooker 1 2", 1);
        ship.due("step 2", 0).due("ofLooker 0 3", 3).due("ofLooker 2 3", 5).due("many 3", 3);
    }

    private static void cellsOfTheLeastSea() {
        Ship ship = Ship.over(LEAST);
        for (String c : new String[] {"MIN", "-1", "4", "36", "64", "MAX"}) {
            ship.due("height " + c, UNKNOWN).due("heap " + c + " 1", UNKNOWN).due("flat " + c, UNKNOWN).due("way " + c + " -1", UNKNOWN);
        }
        ship.due("height 0", 0).due("height 1", 1).due("height 2", 2).due("height 3", 0);
    }

    private static void cellsOfTheGreatestSea() {
        Ship ship = Ship.over(GREATEST);
        for (String c : new String[] {"MIN", "-1", "36", "64", "MAX"}) {
            ship.due("height " + c, UNKNOWN).due("heap " + c + " 1", UNKNOWN).due("flat " + c, UNKNOWN).due("way " + c + " -1", UNKNOWN);
        }
        ship.due("height 0", 0).due("height 35", 9).due("heap 35 1", 9).due("height 35", 1).due("flat 35", 1).due("way 35 -1", 0);
    }

    private static void heapAtItsEdges() {
        Ship ship = Ship.over(LEAST);
        ship.due("heap 0 MIN", OUTSIDE).due("heap 0 -1", OUTSIDE).due("heap 0 10", OUTSIDE).due("heap 0 MAX", OUTSIDE).due("height 0", 0);
        ship.due("heap 0 9", 0).due("height 0", 9).due("heap 0 0", 9).due("height 0", 0);
        ship.due("heap 4 10", UNKNOWN).due("heap -1 -1", UNKNOWN).due("heap 3 10", OUTSIDE).due("heap 3 9", 0).due("height 3", 9);
    }

    private static void heapTellsWhatItWas() {
        Ship ship = Ship.over(LEAST).due("heap 2 5", 2).due("heap 2 5", 5).due("heap 2 6", 5).due("heap 2 2", 6).due("height 2", 2);
        ship.due("heap 2 10", OUTSIDE).due("heap 2 1", 2);
    }

    private static void heapChangesOneCell() {
        Ship ship = Ship.over("f23" + "123456" + ";p0/00").due("heap 2 9", 3);
        int[] want = {1, 2, 9, 4, 5, 6};
        for (int c = 0; c < 6; c++) ship.due("height " + c, want[c]);
        ship.due("seen", 1).due("many 4", 0).due("ofLooker 0 4", 1).due("heap 0 8", 1).due("ofLooker 0 4", 8);
    }

    private static void dimAtItsEdges() {
        Ship ship = Ship.over(LEAST);
        ship.due("dim 0 MIN", OUTSIDE).due("dim 0 -1", OUTSIDE).due("dim 0 10", OUTSIDE).due("dim 0 MAX", OUTSIDE).due("ofLooker 0 1", 3);
        ship.due("dim 0 9", 3).due("ofLooker 0 1", 9).due("dim 0 0", 9).due("ofLooker 0 1", 0);
        ship.due("dim 1 10", UNKNOWN).due("dim -1 -1", UNKNOWN);
    }

    private static void dimTellsWhatItWas() {
        Ship.over(LEAST).due("dim 0 3", 3).due("dim 0 4", 3).due("dim 0 10", OUTSIDE).due("dim 0 5", 4).due("dim 0 5", 5);
    }

    private static void dimChangesOneLooker() {
        Ship ship = Ship.over("f42" + "99999999" + ";p1;d2;g3;p4/00").due("dim 2 8", 3);
        int[] shorts = {1, 2, 8, 4};
        int[] told = {8, 8, 4, 5};
        for (int k = 0; k <= 3; k++) ship.due("ofLooker " + k + " 1", shorts[k]).due("ofLooker " + k + " 4", told[k]);
        ship.due("scrape 2", 3).due("dim 2 0", 8).due("ofLooker 2 1", 0).due("ofLooker 2 2", 1);
    }

    private static void scrapeOneAndAll() {
        Ship ship = Ship.over(GREATEST);
        ship.due("scrape -1", UNKNOWN).due("scrape 4", UNKNOWN).due("scrape 3", 3).due("scrape 0", 2).due("scrape 2", 1).due("scrape 1", 0);
        for (int k = 0; k <= 3; k++) ship.due("ofLooker " + k + " 2", 1).due("scrape " + k, STATE);
        ship.due("scrape 4", UNKNOWN).due("many 2", 4).due("many 3", 32);
        Ship.over(LEAST).due("scrape 0", 0).due("scrape 0", STATE).due("many 2", 1);
    }

    private static void scrapeTwice() {
        Ship ship = Ship.over("f220120;d3;p0/00").due("scrape 1", 1).due("scrape 1", STATE).due("ofLooker 1 2", 1).due("ofLooker 0 2", 0);
        ship.due("scrape 0", 0).due("scrape 1", STATE).due("scrape 0", STATE);
    }

    private static void scrapeLeavesWhatWasSeen() {
        Ship.over("f220120;d3;p0/00").due("scrape 1", 1).due("seen", 3).due("scrape 0", 0).due("seen", 3).due("many 5", 2);
    }

    private static void growOneAndAll() {
        Ship ship = Ship.over(GREATEST);
        for (int k = 0; k <= 3; k++) ship.due("grow " + k, STATE).due("scrape " + k, 3 - k);
        ship.due("grow -1", UNKNOWN).due("grow 4", UNKNOWN).due("grow 3", 1).due("grow 0", 2).due("grow 1", 3).due("grow 2", 4);
        for (int k = 0; k <= 3; k++) ship.due("ofLooker " + k + " 2", 0).due("grow " + k, STATE);
    }

    private static void growTwice() {
        Ship.over("f220120;d3;p0/00").due("scrape 1", 1).due("grow 1", 2).due("grow 1", STATE).due("grow 0", STATE).due("scrape 1", 1);
    }

    private static void growSeesWhatItIsOverNow() {
        Ship ship = Ship.over("f23" + "000000" + ";p0;p0/00").due("scrape 1", 1).due("step 2", 1).due("step 2", 1).due("seen", 0b010111);
        ship.due("grow 1", 2).due("seen", 0b110111).due("many 5", 5).due("many 4", 2);
    }

    private static void growSeesForItselfAlone() {
        Ship ship = Ship.over("f32" + "000000" + ";p0;p0;p0/00").due("scrape 0", 2).due("scrape 2", 1).due("step 2", 1).due("seen", 0b010111);
        ship.due("grow 2", 2).due("seen", 0b110111).due("grow 0", 3).due("seen", 0b111111);
    }

    private static void seenHasTheFirstAndTheLastCell() {
        Ship.over("f66" + "0".repeat(36) + ";p0/00").due("seen", 1);
        Ship ship = new Ship().text(0, 0, "f66" + "0".repeat(36) + ";p0/55");
        ship.due("sea 0 0 0 45", 1);
        Due.due("the last of 36 cells", ship.ask("seen"), 1L << 35);
        ship.due("many 5", 1).due("step 3", 1);
        Due.due("and the one ahead of it", ship.ask("seen"), 3L << 34);
        Ship other = Ship.over(GREATEST);
        Due.due("four of the last row", other.ask("seen"), 15L << 32);
        other.due("many 5", 4);
    }

    private static void seenOfAllCells() {
        Ship ship = Ship.over("f66" + "0".repeat(36) + ";p0;p0;p0;p0/00").due("step 1", 1).due("step 1", 1);
        for (int row = 1; row < 6; row++) ship.due("step 2", 4).due("step " + (row % 2 == 1 ? 3 : 1), 1).due("step " + (row % 2 == 1 ? 3 : 1), 1);
        Due.due("all 36 cells", ship.ask("seen"), (1L << 36) - 1);
        ship.due("many 5", 36).due("step 0", 0).due("many 5", 36);
    }

    private static void seenGrowsAlone() {
        Ship ship = Ship.over(LEAST).due("seen", 2).due("step 3", 1).due("seen", 3).due("step 1", 0).due("seen", 3).due("scrape 0", 0).due("seen", 3);
        ship.due("step 2", 0).due("seen", 3).due("grow 0", 1).due("seen", 11).due("heap 3 1", 0).due("seen", 11);
    }
}
