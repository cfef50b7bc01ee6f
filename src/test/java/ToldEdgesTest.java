/** Promises 17 to 21 at their edges: READINGS from none to FULL, taken back, SHORTS, KINDS, ODDS. */
public final class ToldEdgesTest {
    private static final int FULL = HullCharts.FULL;
    private static final int OUTSIDE = HullCharts.OUTSIDE;
    private static final int UNKNOWN = HullCharts.UNKNOWN;
    private static final long LOST = HullCharts.LOST;
    private static final int ALL_SHORTS = 1023;
    private static final int ALL_KINDS = 7;
    private static final String THREE = "f32" + "123456" + ";p1;d2;g3/00";

    private ToldEdgesTest() {
    }

    public static void main(String[] args) {
        readingLookers();
        readingHeights();
        readingNumbers();
        readingRefusalsInTheirOrder();
        readingsUpToEight();
        theNinthReading();
        fullIsTheLastRefusal();
        refusedReadingsAreNotCounted();
        readingsOfThoseWhoAreGone();
        readingsAlikeAreCountedEach();
        readingsWithoutASea();
        backOfNone();
        backOneBelowAndOneBeyond();
        backAll();
        backFromFull();
        backTakesTheLast();
        backNumbersAnew();
        backWithoutASea();
        shortsOfNoReadings();
        shortsAtEachNumber();
        shortsBelowAreAllSo();
        shortsOfHeightZero();
        shortsOfDeep();
        shortsOfGrand();
        shortsOfNone();
        shortsAreInPlaceOfItsOwn();
        shortsOfSeveralReadings();
        shortsHangOnTheReadingsOfOthers();
        shortsOfLookersThatAreNot();
        shortsThoughGone();
        shortsOfEightReadings();
        kindsOfNoReadings();
        kindsEachAlone();
        kindsOfTwo();
        kindsOfNone();
        kindsAreInPlaceOfItsOwn();
        kindsUseItsShort();
        kindsHangOnTheReadingsOfOthers();
        kindsOfLookersThatAreNot();
        kindsThoughGone();
        theLastReadingCounts();
        oddsNumbers();
        oddsWhich();
        oddsOfLookersThatAreNot();
        oddsWithoutASea();
        oddsOfAll();
        oddsOfNone();
        oddsInLeastTerms();
        oddsOfOneOfThirtySix();
        oddsOfEachV();
        oddsAtTheGreatest();
        oddsOfPlacesAlone();
        oddsOfLookersAsManyAsColumns();
        oddsThoughGone();
        oddsFollowHeapAndDim();
        oddsAreNotOfThePlace();
        oddsNeedNoReadings();
        questionsChangeNothing();
        Due.end();
    }

    private static void readingLookers() {
        Ship ship = Ship.over(THREE);
        for (String k : new String[] {"MIN", "-1", "3", "4", "MAX"}) ship.due("reading " + k + " 0 0", UNKNOWN);
        ship.due("reading 0 0 0", 0).due("reading 2 0 0", 1).due("many 6", 2);
        Ship greatest = Ship.over("f42" + "00000000" + ";p0;p0;p0;p0/00").due("reading 4 0 0", UNKNOWN).due("reading 3 0 0", 0);
        greatest.due("many 6", 1);
    }

    private static void readingHeights() {
        Ship ship = Ship.over(THREE);
        for (String height : new String[] {"MIN", "-1", "10", "MAX"}) ship.due("reading 0 " + height + " 0", OUTSIDE);
        ship.due("many 6", 0).due("reading 0 0 0", 0).due("reading 0 9 8", 1).due("shorts 0", 1 << 1);
    }

    private static void readingNumbers() {
        Ship ship = Ship.over(THREE);
        for (String v : new String[] {"MIN", "-1", "21", "MAX"}) ship.due("reading 0 0 " + v, OUTSIDE);
        ship.due("many 6", 0).due("reading 0 1 0", 0).due("reading 0 1 20", 1).due("shorts 0", 0).due("back 1", 1).due("shorts 0", 0b1111111110);
    }

    private static void readingRefusalsInTheirOrder() {
        Ship ship = Ship.over(THREE);
        ship.due("reading 3 10 21", UNKNOWN).due("reading 3 0 21", UNKNOWN).due("reading -1 -1 0", UNKNOWN);
        ship.due("reading 0 10 21", OUTSIDE).due("reading 0 -1 20", OUTSIDE).due("reading 0 9 21", OUTSIDE);
    }

    private static Ship full() {
        Ship ship = Ship.over(THREE);
        for (int r = 0; r < 8; r++) ship.due("many 6", r).due("reading 0 5 4", r);
        return ship;
    }

    private static void readingsUpToEight() {
        full().due("many 6", 8).due("shorts 0", 1 << 1).due("kinds 0", 1);
    }

    private static void theNinthReading() {
        full().due("reading 0 5 4", FULL).due("reading 2 9 20", FULL).due("many 6", 8).due("shorts 0", 1 << 1);
    }

    private static void fullIsTheLastRefusal() {
        full().due("reading 3 5 4", UNKNOWN).due("reading -1 10 21", UNKNOWN).due("reading 0 10 4", OUTSIDE).due("reading 0 -1 4", OUTSIDE)
            .due("reading 0 5 21", OUTSIDE).due("reading 0 5 -1", OUTSIDE).due("reading 0 5 20", FULL).due("reading 2 0 0", FULL);
    }

    private static void refusedReadingsAreNotCounted() {
        Ship ship = Ship.over(THREE).due("reading 0 5 4", 0).due("reading 3 5 4", UNKNOWN).due("reading 0 10 4", OUTSIDE);
        ship.due("reading 0 5 21", OUTSIDE).due("reading 0 6 5", 1).due("many 6", 2).due("shorts 0", 1 << 1);
    }

    private static void readingsOfThoseWhoAreGone() {
        Ship ship = Ship.over(THREE).due("scrape 0", 2).due("reading 0 5 4", 0).due("shorts 0", 1 << 1).due("kinds 0", 1);
        ship.due("scrape 1", 1).due("scrape 2", 0).due("reading 2 5 6", 1).due("many 6", 2).due("kinds 2", 4);
    }

    private static void readingsAlikeAreCountedEach() {
        Ship ship = Ship.over(THREE).due("reading 1 5 4", 0).due("reading 1 5 4", 1).due("many 6", 2).due("shorts 1", 1 << 2);
        ship.due("back 1", 1).due("shorts 1", 1 << 2);
    }

    private static void readingsWithoutASea() {
        new Ship().due("reading 0 0 0", UNKNOWN).due("reading 0 10 0", UNKNOWN).due("many 6", 0).due("shorts 0", UNKNOWN).due("kinds 0", UNKNOWN);
    }

    private static void backOfNone() {
        Ship ship = Ship.over(THREE).due("back 0", 0).due("back 1", OUTSIDE).due("back -1", OUTSIDE).due("reading 0 5 4", 0);
        ship.due("back 0", 1).due("shorts 0", 1 << 1).due("many 6", 1);
    }

    private static void backOneBelowAndOneBeyond() {
        Ship ship = Ship.over(THREE).due("reading 0 5 4", 0).due("reading 0 5 4", 1);
        ship.due("back MIN", OUTSIDE).due("back -1", OUTSIDE).due("back 3", OUTSIDE).due("back 8", OUTSIDE).due("back MAX", OUTSIDE);
        ship.due("many 6", 2).due("shorts 0", 1 << 1).due("back 2", 0).due("back 2", OUTSIDE).due("back 1", OUTSIDE);
    }

    private static void backAll() {
        full().due("back 9", OUTSIDE).due("back 8", 0).due("many 6", 0).due("shorts 0", ALL_SHORTS).due("kinds 0", ALL_KINDS).due("back 1", OUTSIDE);
    }

    private static void backFromFull() {
        full().due("back 0", 8).due("reading 0 5 4", FULL).due("back 1", 7).due("reading 0 5 4", 7).due("reading 0 5 4", FULL)
            .due("back 8", 0).due("reading 0 5 4", 0);
    }

    private static void backTakesTheLast() {
        Ship ship = Ship.over(THREE).due("reading 0 5 4", 0).due("reading 0 5 3", 1).due("reading 0 5 2", 2);
        ship.due("shorts 0", 0).due("back 1", 2).due("shorts 0", 0).due("back 1", 1).due("shorts 0", 1 << 1).due("back 1", 0);
    }

    private static void backNumbersAnew() {
        Ship ship = Ship.over(THREE).due("reading 0 5 4", 0).due("reading 0 5 3", 1).due("back 2", 0);
        ship.due("reading 0 5 2", 0).due("shorts 0", 1 << 3).due("reading 0 6 3", 1).due("shorts 0", 1 << 3).due("many 6", 2);
    }

    private static void backWithoutASea() {
        new Ship().due("back 0", 0).due("back 1", OUTSIDE).due("back -1", OUTSIDE);
    }

    private static void shortsOfNoReadings() {
        Ship ship = Ship.over(THREE);
        for (int k = 0; k <= 2; k++) ship.due("shorts " + k, ALL_SHORTS);
    }

    /** A PLAIN one that told 1 of the height one above. */
    private static void shortsAtEachNumber() {
        for (int shorts = 0; shorts <= 8; shorts++) {
            Ship.over(THREE).due("reading 0 " + (shorts + 1) + " 1", 0).due("shorts 0", 1 << shorts);
        }
        Ship.over(THREE).due("reading 0 9 9", 0).due("shorts 0", 1);
        Ship.over(THREE).due("reading 0 9 0", 0).due("shorts 0", 1 << 9);
    }

    private static void shortsBelowAreAllSo() {
        for (int height = 0; height <= 9; height++) {
            Ship.over(THREE).due("reading 0 " + height + " 0", 0).due("shorts 0", ALL_SHORTS >> height << height);
        }
    }

    private static void shortsOfHeightZero() {
        Ship.over(THREE).due("reading 0 0 0", 0).due("shorts 0", ALL_SHORTS).due("reading 0 0 1", 1).due("shorts 0", 0);
        Ship.over(THREE).due("reading 1 0 1", 0).due("shorts 1", ALL_SHORTS).due("reading 1 0 0", 1).due("shorts 1", 0);
        Ship.over(THREE).due("reading 2 0 2", 0).due("shorts 2", ALL_SHORTS).due("reading 2 0 0", 1).due("shorts 2", 0);
    }

    private static void shortsOfDeep() {
        Ship.over(THREE).due("reading 1 9 10", 0).due("shorts 1", 1);
        Ship.over(THREE).due("reading 1 9 1", 0).due("shorts 1", 1 << 9);
        Ship.over(THREE).due("reading 1 9 2", 0).due("shorts 1", 1 << 8);
        Ship.over(THREE).due("reading 1 9 11", 0).due("shorts 1", 0);
        Ship.over(THREE).due("reading 1 9 0", 0).due("shorts 1", 0);
    }

    private static void shortsOfGrand() {
        Ship.over(THREE).due("reading 2 9 20", 0).due("shorts 2", 1);
        Ship.over(THREE).due("reading 2 9 2", 0).due("shorts 2", 1 << 9);
        Ship.over(THREE).due("reading 2 9 4", 0).due("shorts 2", 1 << 8);
        Ship.over(THREE).due("reading 2 9 3", 0).due("shorts 2", 0);
        Ship.over(THREE).due("reading 2 9 19", 0).due("shorts 2", 0);
    }

    private static void shortsOfNone() {
        Ship.over(THREE).due("reading 0 5 6", 0).due("shorts 0", 0);
        Ship.over(THREE).due("reading 0 5 20", 0).due("shorts 0", 0);
        Ship.over(THREE).due("reading 0 5 4", 0).due("reading 0 5 5", 1).due("shorts 0", 0);
    }

    private static void shortsAreInPlaceOfItsOwn() {
        Ship ship = Ship.over(THREE).due("reading 0 9 4", 0).due("shorts 0", 1 << 5).due("dim 0 9", 1).due("shorts 0", 1 << 5);
        ship.due("dim 0 5", 9).due("shorts 0", 1 << 5).due("ofLooker 0 1", 5);
    }

    private static void shortsOfSeveralReadings() {
        Ship ship = Ship.over(THREE).due("reading 0 3 0", 0).due("shorts 0", 0b1111111000).due("reading 0 5 0", 1).due("shorts 0", 0b1111100000);
        ship.due("reading 0 8 2", 2).due("shorts 0", 1 << 6).due("reading 0 7 0", 3).due("shorts 0", 0).due("back 1", 3).due("shorts 0", 1 << 6);
    }

    private static void shortsHangOnTheReadingsOfOthers() {
        Ship ship = Ship.over(THREE).due("reading 1 5 4", 0).due("shorts 0", ALL_SHORTS).due("shorts 2", ALL_SHORTS);
        ship.due("reading 1 5 5", 1).due("shorts 0", 0).due("shorts 2", 0).due("shorts 1", 0).due("back 1", 1).due("shorts 0", ALL_SHORTS);
        ship.due("dim 1 3", 2).due("shorts 0", 0).due("shorts 1", 1 << 2);
    }

    private static void shortsOfLookersThatAreNot() {
        Ship ship = Ship.over(THREE);
        for (String k : new String[] {"MIN", "-1", "3", "MAX"}) ship.due("shorts " + k, UNKNOWN);
    }

    private static void shortsThoughGone() {
        Ship ship = Ship.over(THREE).due("reading 0 5 4", 0).due("scrape 0", 2).due("scrape 1", 1).due("scrape 2", 0);
        ship.due("shorts 0", 1 << 1).due("shorts 1", ALL_SHORTS).due("kinds 0", 1).due("reading 1 0 0", 1).due("shorts 0", 0);
    }

    private static void shortsOfEightReadings() {
        Ship ship = Ship.over(THREE);
        for (int r = 0; r < 7; r++) ship.due("reading 0 5 4", r);
        ship.due("reading 0 5 3", 7).due("shorts 0", 0).due("kinds 0", 0).due("back 1", 7).due("shorts 0", 1 << 1).due("kinds 0", 1);
    }

    private static void kindsOfNoReadings() {
        Ship ship = Ship.over(THREE);
        for (int k = 0; k <= 2; k++) ship.due("kinds " + k, ALL_KINDS);
    }

    private static void kindsEachAlone() {
        for (int k = 0; k <= 2; k++) {
            Ship ship = Ship.over("f32" + "123456" + ";p4;d4;g4/00");
            ship.due("reading " + k + " 9 5", 0).due("kinds " + k, 1).due("back 1", 0);
            ship.due("reading " + k + " 9 6", 0).due("kinds " + k, 2).due("back 1", 0);
            ship.due("reading " + k + " 9 12", 0).due("kinds " + k, 4).due("back 1", 0);
            ship.due("reading " + k + " 0 0", 0).due("kinds " + k, 1).due("back 1", 0);
            ship.due("reading " + k + " 0 1", 0).due("kinds " + k, 2).due("back 1", 0);
            ship.due("reading " + k + " 0 2", 0).due("kinds " + k, 4);
        }
    }

    private static void kindsOfTwo() {
        // no reading is told alike by two kinds; two readings leave none of them
        Ship ship = Ship.over(THREE).due("reading 0 9 8", 0).due("kinds 0", 1).due("reading 0 9 9", 1).due("kinds 0", 0);
        ship.due("back 1", 1).due("reading 0 8 7", 1).due("kinds 0", 1);
    }

    private static void kindsOfNone() {
        Ship.over(THREE).due("reading 0 9 7", 0).due("kinds 0", 0);
        Ship.over(THREE).due("reading 0 9 17", 0).due("kinds 0", 0);
        Ship.over(THREE).due("reading 0 9 20", 0).due("kinds 0", 0).due("dim 0 0", 1).due("kinds 0", 4);
    }

    private static void kindsAreInPlaceOfItsOwn() {
        Ship.over(THREE).due("reading 0 9 18", 0).due("kinds 0", 4).due("ofLooker 0 0", 0).due("shorts 0", 0);
        Ship.over(THREE).due("reading 2 9 6", 0).due("kinds 2", 1).due("ofLooker 2 0", 2).due("shorts 2", 1 << 7);
    }

    private static void kindsUseItsShort() {
        Ship ship = Ship.over(THREE).due("reading 0 9 5", 0).due("kinds 0", 0).due("dim 0 4", 1).due("kinds 0", 1).due("dim 0 5", 4).due("kinds 0", 2);
        ship.due("dim 0 9", 5).due("kinds 0", 0);
    }

    private static void kindsHangOnTheReadingsOfOthers() {
        Ship ship = Ship.over(THREE).due("reading 1 5 4", 0).due("kinds 0", ALL_KINDS).due("kinds 2", ALL_KINDS).due("kinds 1", 2);
        ship.due("reading 2 5 5", 1).due("kinds 0", 0).due("kinds 1", 0).due("kinds 2", 0).due("back 2", 0).due("kinds 0", ALL_KINDS);
    }

    private static void kindsOfLookersThatAreNot() {
        Ship ship = Ship.over(THREE);
        for (String k : new String[] {"MIN", "-1", "3", "MAX"}) ship.due("kinds " + k, UNKNOWN);
    }

    private static void kindsThoughGone() {
        Ship.over(THREE).due("scrape 1", 2).due("reading 1 5 4", 0).due("kinds 1", 2).due("kinds 0", ALL_KINDS);
    }

    private static void theLastReadingCounts() {
        for (int many = 1; many <= 8; many++) {
            Ship ship = Ship.over(THREE);
            for (int r = 0; r < many - 1; r++) ship.due("reading 1 5 4", r);
            ship.due("kinds 1", many == 1 ? ALL_KINDS : 2).due("reading 1 5 3", many - 1).due("kinds 1", many == 1 ? 1 : 0);
        }
    }

    private static Ship share(Ship ship, int k, int v, int upper, int lower) {
        return ship.due("odds " + k + " " + v + " 0", upper).due("odds " + k + " " + v + " 1", lower);
    }

    private static void oddsNumbers() {
        Ship ship = Ship.over(THREE);
        for (String v : new String[] {"MIN", "-1", "21", "MAX"}) ship.due("odds 2 " + v + " 0", LOST).due("odds 2 " + v + " 1", LOST);
        share(share(ship, 2, 0, 1, 1), 2, 20, 0, 1);
    }

    private static void oddsWhich() {
        Ship ship = Ship.over(THREE);
        for (String which : new String[] {"MIN", "-1", "2", "MAX"}) ship.due("odds 2 0 " + which, LOST);
        ship.due("odds 2 0 0", 1).due("odds 2 0 1", 1);
    }

    private static void oddsOfLookersThatAreNot() {
        Ship ship = Ship.over(THREE);
        for (String k : new String[] {"MIN", "-1", "3", "MAX"}) ship.due("odds " + k + " 0 0", LOST).due("odds " + k + " 21 2", LOST);
        share(ship, 2, 0, 1, 1);
    }

    private static void oddsWithoutASea() {
        new Ship().due("odds 0 0 0", LOST).due("odds 0 0 1", LOST).due("odds -1 21 2", LOST);
    }

    private static void oddsOfAll() {
        Ship ship = Ship.over("f22" + "3333" + ";p0;g9/00");
        share(share(share(ship, 0, 0, 1, 1), 0, 3, 1, 1), 0, 4, 0, 1);
        share(share(share(ship, 1, 0, 1, 1), 1, 2, 1, 1), 1, 3, 0, 1);
    }

    private static void oddsOfNone() {
        share(Ship.over("f66" + "0".repeat(36) + ";p0/00"), 0, 1, 0, 1);
        share(Ship.over("f66" + "9".repeat(36) + ";p0/00"), 0, 10, 0, 1);
    }

    private static void oddsInLeastTerms() {
        Ship ship = Ship.over("f62" + "000000" + "000000" + ";p0/00");
        int[][] shares = {{0, 1}, {1, 12}, {1, 6}, {1, 4}, {1, 3}, {5, 12}, {1, 2}, {7, 12}, {2, 3}, {3, 4}, {5, 6}, {11, 12}, {1, 1}};
        for (int many = 0; many <= 12; many++) {
            share(ship, 0, 9, shares[many][0], shares[many][1]);
            ship.due("heap " + many + " 9", many < 12 ? 0 : UNKNOWN);
        }
    }

    private static void oddsOfOneOfThirtySix() {
        share(Ship.over("f66" + "0".repeat(35) + "1" + ";p0/00"), 0, 1, 1, 36);
        share(Ship.over("f66" + "1".repeat(35) + "0" + ";p0/00"), 0, 1, 35, 36);
        share(Ship.over("f55" + "0".repeat(20) + "11111" + ";p0/00"), 0, 1, 1, 5);
    }

    private static void oddsOfEachV() {
        Ship ship = Ship.over("f52" + "01234" + "56789" + ";p0/00");
        int[][] tenths = {{0, 1}, {1, 10}, {1, 5}, {3, 10}, {2, 5}, {1, 2}, {3, 5}, {7, 10}, {4, 5}, {9, 10}, {1, 1}};
        for (int v = 0; v <= 20; v++) share(ship, 0, v, tenths[Math.max(10 - v, 0)][0], tenths[Math.max(10 - v, 0)][1]);
    }

    private static void oddsAtTheGreatest() {
        Ship ship = Ship.over("f32" + "999999" + ";p0;d0;g0/00");
        share(share(ship, 0, 9, 1, 1), 0, 10, 0, 1);
        share(share(ship, 1, 10, 1, 1), 1, 11, 0, 1);
        share(share(ship, 2, 20, 1, 1), 2, 19, 1, 1);
        share(ship.due("heap 2 8", 9), 2, 20, 1, 2);
        share(share(ship, 2, 19, 1, 2), 2, 18, 1, 1);
    }

    private static void oddsOfPlacesAlone() {
        // LOOKER 0 of three can be over two columns of four, LOOKER 1 over the two in the middle, LOOKER 2 over the last two
        Ship ship = Ship.over("f42" + "9500" + "9500" + ";p0;p0;p0/00");
        share(share(share(ship, 0, 5, 1, 1), 0, 9, 1, 2), 0, 6, 1, 2);
        share(share(share(ship, 1, 5, 1, 2), 1, 0, 1, 1), 1, 9, 0, 1);
        share(share(ship, 2, 0, 1, 1), 2, 1, 0, 1);
        share(Ship.over("f62" + "900000" + "000000" + ";p0;p0;p0;p0/00"), 0, 9, 1, 6);
        share(Ship.over("f62" + "000009" + "000000" + ";p0;p0;p0;p0/00"), 3, 9, 1, 6);
        share(Ship.over("f62" + "000090" + "000000" + ";p0;p0;p0;p0/00"), 0, 9, 0, 1);
    }

    private static void oddsOfLookersAsManyAsColumns() {
        Ship ship = Ship.over("f23" + "90" + "09" + "00" + ";p0;p0/00");
        share(share(ship, 0, 9, 1, 3), 1, 9, 1, 3);
        share(share(ship, 0, 0, 1, 1), 1, 10, 0, 1);
    }

    private static void oddsThoughGone() {
        Ship ship = Ship.over(THREE).due("scrape 0", 2).due("scrape 1", 1).due("scrape 2", 0);
        share(share(share(ship, 0, 3, 1, 2), 1, 4, 1, 2), 2, 8, 1, 2);
    }

    private static void oddsFollowHeapAndDim() {
        Ship ship = Ship.over("f22" + "1234" + ";p0/00");
        share(ship, 0, 3, 1, 2).due("heap 0 9", 1);
        share(ship, 0, 3, 3, 4).due("dim 0 2", 0);
        share(ship, 0, 3, 1, 4).due("dim 0 9", 2);
        share(ship, 0, 1, 0, 1);
    }

    private static void oddsAreNotOfThePlace() {
        Ship ship = Ship.over("f22" + "1234" + ";p0/00");
        share(ship, 0, 2, 3, 4).due("step 1", 1).due("step 2", 1);
        share(ship, 0, 2, 3, 4);
    }

    private static void oddsNeedNoReadings() {
        Ship ship = Ship.over("f22" + "1234" + ";p0/00").due("reading 0 1 20", 0).due("shorts 0", 0);
        share(ship, 0, 2, 3, 4);
    }

    private static void questionsChangeNothing() {
        Ship ship = Ship.over(THREE).due("reading 0 9 18", 0).due("kinds 0", 4).due("shorts 0", 0).due("odds 0 5 0", 0);
        ship.due("many 6", 1).due("ofLooker 0 0", 0).due("ofLooker 0 1", 1).due("trace", 0).due("seen", 7).due("many 4", 0);
    }
}
