import java.util.Arrays;

/** Promises 12 to 16 at their edges: ways, the most, flats, begins, runs. */
public final class WhereEdgesTest {
    private static final int NONE = HullCharts.NONE;
    private static final int OUTSIDE = HullCharts.OUTSIDE;
    private static final int STATE = HullCharts.STATE;
    private static final int UNKNOWN = HullCharts.UNKNOWN;
    private static final int MIN = Integer.MIN_VALUE;
    private static final int MAX = Integer.MAX_VALUE;

    private WhereEdgesTest() {
    }

    public static void main(String[] args) {
        wayCells();
        wayStepNumbers();
        wayCellIsAskedAheadOfTheStep();
        wayOfNoSteps();
        wayOfOneStepToEachSide();
        wayOfNineAndTenSteps();
        wayOfTenTheOtherWay();
        wayIsTheFirstOfSeveral();
        wayOfTheNearestLooker();
        wayOfLookersAsNear();
        wayOfTheLookersLeft();
        wayWhenAllAreGone();
        wayToCellsThatNoneCanBeOver();
        wayForLookersAsManyAsColumns();
        wayChangesNothing();
        mostNumbers();
        mostStepNumbers();
        mostIsOutsideAheadOfNoSea();
        mostOfOne();
        mostOfFive();
        mostIsTheFirstOfSeveral();
        mostOfNoNewCells();
        mostWhenAllAreGone();
        mostOfThoseLeft();
        mostInTheLeastSea();
        mostGoesBackWhereItMust();
        mostChangesNothing();
        flatOfOne();
        flatOfAll();
        flatHangsNotByCorners();
        flatHangsNotOverTheSides();
        flatOfARowAndOfAColumn();
        flatOfEachHeight();
        flatFollowsHeap();
        flatCountsNotWhatIsApart();
        begunRowNumbers();
        begunSortsAndWhats();
        begunSheets();
        begunLanes();
        begunPlacesOfARow();
        begunOfAnEmptySheet();
        begunOfTheMostCells();
        begunOfAllPlaces();
        begunOfOnePlace();
        begunOfNoPlace();
        begunLeastAndGreatest();
        begunBySteps();
        begunByAsManyRowsAsTheSeaIsLong();
        begunByAsManyRowsAsTheSeaIsWide();
        begunOfThoseLeft();
        begunWhenAllAreGone();
        begunOfNumbersThatNoneTells();
        begunOfCutNumbers();
        begunIsNotWhereTheShipIs();
        begunFollowsHeapAndDim();
        begunChangesNothing();
        runNumbers();
        runWhats();
        runSheets();
        runLanes();
        runPlaces();
        runOfOne();
        runOfAllAlike();
        runOfAllUnlike();
        runEndsInPart();
        runEndsWhole();
        runIsTheLeast();
        runOfForty();
        runOfTheEndsOfTheInts();
        runOfCutNumbers();
        runNeedsNoSea();
        runChangesNothing();
        Due.end();
    }

    private static String sea(int wide, int rows, String tail) {
        return "f" + wide + rows + "0".repeat(wide * rows) + tail;
    }

    private static Ship way(Ship ship, int cell, int... steps) {
        ship.due("way " + cell + " -1", steps.length);
        for (int k = 0; k <= 9; k++) ship.due("way " + cell + " " + k, k < steps.length ? steps[k] : NONE);
        return ship.due("way " + cell + " 10", OUTSIDE);
    }

    private static Ship noWay(Ship ship, int cell) {
        for (int k = -1; k <= 9; k++) ship.due("way " + cell + " " + k, NONE);
        return ship;
    }

    private static void wayCells() {
        Ship ship = Ship.over(sea(2, 2, ";p0/00"));
        for (String cell : new String[] {"MIN", "-1", "4", "35", "36", "MAX"}) ship.due("way " + cell + " -1", UNKNOWN).due("way " + cell + " 0", UNKNOWN);
        ship.due("way 0 -1", 0).due("way 3 -1", 2);
        Ship.over(sea(6, 6, ";p0/00")).due("way 35 -1", 10).due("way 36 -1", UNKNOWN);
        new Ship().due("way 0 -1", UNKNOWN).due("way 0 10", UNKNOWN);
    }

    private static void wayStepNumbers() {
        Ship ship = Ship.over(sea(2, 2, ";p0/00"));
        ship.due("way 3 MIN", OUTSIDE).due("way 3 -2", OUTSIDE).due("way 3 -1", 2).due("way 3 0", 1).due("way 3 1", 2).due("way 3 2", NONE);
        ship.due("way 3 9", NONE).due("way 3 10", OUTSIDE).due("way 3 MAX", OUTSIDE);
    }

    private static void wayCellIsAskedAheadOfTheStep() {
        Ship.over(sea(2, 2, ";p0/00")).due("way 4 -2", UNKNOWN).due("way -1 10", UNKNOWN).due("way 3 10", OUTSIDE);
        Ship.over(sea(2, 2, ";p0/00")).due("scrape 0", 0).due("way 3 10", OUTSIDE).due("way 3 -2", OUTSIDE).due("way 3 9", NONE);
    }

    private static void wayOfNoSteps() {
        Ship ship = Ship.over(sea(6, 2, ";p0;p0;p0;p0/11"));
        for (int cell = 7; cell <= 10; cell++) way(ship, cell);
    }

    private static void wayOfOneStepToEachSide() {
        Ship ship = Ship.over(sea(3, 3, ";p0/11"));
        way(way(way(way(ship, 1, 0), 5, 1), 7, 2), 3, 3);
    }

    private static void wayOfNineAndTenSteps() {
        Ship ship = Ship.over(sea(6, 6, ";p0/00"));
        way(ship, 35, 1, 1, 1, 1, 1, 2, 2, 2, 2, 2);
        way(ship, 34, 1, 1, 1, 1, 2, 2, 2, 2, 2);
        way(ship, 29, 1, 1, 1, 1, 1, 2, 2, 2, 2);
    }

    private static void wayOfTenTheOtherWay() {
        way(Ship.over(sea(6, 6, ";p0/55")), 0, 0, 0, 0, 0, 0, 3, 3, 3, 3, 3);
        way(Ship.over(sea(6, 6, ";p0/05")), 5, 0, 0, 0, 0, 0, 1, 1, 1, 1, 1);
        way(Ship.over(sea(6, 6, ";p0/50")), 30, 2, 2, 2, 2, 2, 3, 3, 3, 3, 3);
    }

    private static void wayIsTheFirstOfSeveral() {
        Ship ship = Ship.over(sea(3, 3, ";p0/11"));
        way(way(way(way(ship, 0, 0, 3), 2, 0, 1), 8, 1, 2), 6, 2, 3);
    }

    private static void wayOfTheNearestLooker() {
        Ship ship = Ship.over(sea(6, 2, ";p0;p0/20"));
        way(way(way(way(ship, 0, 3, 3), 1, 3), 4, 1), 5, 1, 1);
        way(way(ship, 9, 2), 8, 2);
    }

    private static void wayOfLookersAsNear() {
        // LOOKERS 0 and 2 are left: over column 3 by a STEP to the right or one to the left
        Ship ship = Ship.over(sea(6, 2, ";p0;p0;p0/20")).due("scrape 1", 2);
        way(way(ship, 3, 1), 9, 1, 2);
        ship.due("step 2", 2);
        way(way(ship, 3, 0, 1), 9, 1);
        // at the right side there is the STEP to the left alone
        Ship other = Ship.over(sea(6, 2, ";p0;p0;p0/30")).due("scrape 1", 2);
        way(way(other, 4, 3), 10, 2, 3);
    }

    private static void wayOfTheLookersLeft() {
        Ship ship = Ship.over(sea(6, 2, ";p0;p0;p0;p0/10"));
        way(ship, 2).due("scrape 1", 3);
        way(ship, 2, 1).due("scrape 0", 2);
        way(ship, 2, 3).due("scrape 2", 1);
        noWay(ship, 2).due("grow 1", 2);
        way(ship, 2);
    }

    private static void wayWhenAllAreGone() {
        Ship ship = Ship.over(sea(2, 2, ";p0;p0/00")).due("scrape 0", 1).due("scrape 1", 0);
        for (int cell = 0; cell < 4; cell++) noWay(ship, cell);
        ship.due("way 4 -1", UNKNOWN).due("way -1 -1", UNKNOWN);
    }

    private static void wayToCellsThatNoneCanBeOver() {
        // LOOKER 1 of three can be over columns 1 and 2 of four
        Ship ship = Ship.over(sea(4, 2, ";p0;p0;p0/00")).due("scrape 0", 2).due("scrape 2", 1);
        noWay(ship, 0);
        way(ship, 1);
        way(ship, 2, 1);
        noWay(ship, 3);
        noWay(ship, 4);
        way(ship, 5, 2);
        way(ship, 6, 1, 2);
        noWay(ship, 7);
    }

    private static void wayForLookersAsManyAsColumns() {
        Ship ship = Ship.over(sea(2, 3, ";p0;p0/01"));
        way(way(way(way(ship, 0, 0), 1, 0), 4, 2), 5, 2);
        ship.due("scrape 0", 1);
        noWay(ship, 0);
        way(ship, 1, 0);
    }

    private static void wayChangesNothing() {
        Ship ship = way(Ship.over(sea(6, 6, ";p0/00")), 35, 1, 1, 1, 1, 1, 2, 2, 2, 2, 2);
        ship.due("many 3", 0).due("many 4", 0).due("many 5", 1).due("seen", 1);
    }

    private static Ship most(Ship ship, int n, int cells, int... steps) {
        ship.due("most " + n + " -2", OUTSIDE).due("most " + n + " -1", cells);
        for (int k = 0; k <= 4; k++) ship.due("most " + n + " " + k, k < n ? steps[k] : NONE);
        return ship.due("most " + n + " 5", OUTSIDE);
    }

    private static void mostNumbers() {
        Ship ship = Ship.over(sea(2, 6, ";p0;p0/00"));
        for (String n : new String[] {"MIN", "-1", "0", "6", "MAX"}) ship.due("most " + n + " -1", OUTSIDE).due("most " + n + " 0", OUTSIDE);
        ship.due("most 1 -1", 2).due("most 5 -1", 10);
    }

    private static void mostStepNumbers() {
        Ship ship = Ship.over(sea(2, 6, ";p0;p0/00"));
        for (int n = 1; n <= 5; n++) {
            ship.due("most " + n + " MIN", OUTSIDE).due("most " + n + " MAX", OUTSIDE);
            most(ship, n, 2 * n, 2, 2, 2, 2, 2);
        }
    }

    private static void mostIsOutsideAheadOfNoSea() {
        Ship ship = new Ship();
        ship.due("most 0 -1", OUTSIDE).due("most 6 -1", OUTSIDE).due("most 1 -2", OUTSIDE).due("most 5 5", OUTSIDE);
        ship.due("most 1 -1", STATE).due("most 5 4", STATE);
    }

    private static void mostOfOne() {
        most(Ship.over(sea(3, 3, ";p0/11")), 1, 1, 0);
        most(Ship.over(sea(3, 3, ";p0/10")), 1, 1, 1);
        most(Ship.over(sea(3, 3, ";p0/20")), 1, 1, 2);
        most(Ship.over(sea(3, 3, ";p0;p0/10")), 1, 2, 2);
        most(Ship.over(sea(3, 3, ";p0;p0/12")), 1, 2, 0);
    }

    private static void mostOfFive() {
        most(Ship.over(sea(6, 6, ";p0;p0;p0;p0/00")), 5, 20, 2, 2, 2, 2, 2);
        most(Ship.over(sea(6, 6, ";p0;p0;p0;p0/25")), 5, 20, 0, 0, 0, 0, 0);
        most(Ship.over(sea(6, 6, ";p0/35")), 5, 5, 0, 0, 0, 0, 0);
    }

    private static void mostIsTheFirstOfSeveral() {
        Ship ship = Ship.over(sea(3, 3, ";p0/11"));
        most(ship, 2, 2, 0, 1);
        most(ship, 3, 3, 0, 1, 2);
        most(ship, 5, 5, 0, 1, 2, 2, 3);
        most(Ship.over(sea(6, 6, ";p0/22")), 3, 3, 0, 0, 1);
        most(Ship.over(sea(6, 6, ";p0/00")), 4, 4, 1, 1, 1, 1);
        most(Ship.over(sea(6, 6, ";p0/50")), 4, 4, 2, 2, 2, 2);
    }

    private static void mostOfNoNewCells() {
        Ship ship = Ship.over(sea(2, 2, ";p0;p0/00")).due("step 2", 2);
        most(ship, 1, 0, 0);
        most(ship, 2, 0, 0, 2);
        most(ship, 5, 0, 0, 2, 0, 2, 0);
        ship.due("step 0", 0);
        most(ship, 3, 0, 2, 0, 2);
    }

    private static void mostWhenAllAreGone() {
        Ship ship = Ship.over(sea(3, 3, ";p0;p0/11")).due("scrape 0", 1).due("scrape 1", 0);
        most(ship, 1, 0, 0);
        most(ship, 5, 0, 0, 2, 0, 2, 0);
        Ship corner = Ship.over(sea(3, 3, ";p0;p0/00")).due("scrape 0", 1).due("scrape 1", 0);
        most(corner, 1, 0, 1);
        most(corner, 5, 0, 1, 2, 0, 2, 0);
    }

    private static void mostOfThoseLeft() {
        Ship ship = Ship.over(sea(4, 4, ";p0;p0;p0/11")).due("scrape 1", 2);
        most(ship, 1, 2, 0);
        ship.due("scrape 0", 1);
        most(ship, 1, 1, 0);
        most(ship, 2, 2, 0, 3);
    }

    private static void mostInTheLeastSea() {
        Ship ship = Ship.over(sea(2, 2, ";p0/00"));
        most(ship, 1, 1, 1);
        most(ship, 2, 2, 1, 2);
        most(ship, 3, 3, 1, 2, 3);
        most(ship, 4, 3, 1, 2, 3, 0);
        most(ship, 5, 3, 1, 2, 0, 2, 3);
    }

    private static void mostGoesBackWhereItMust() {
        // all but the lower right cell is seen: two STEPS over what was seen
        Ship ship = Ship.over(sea(2, 2, ";p0/10")).due("step 3", 1).due("step 2", 1).due("step 0", 0);
        most(ship, 1, 0, 1);
        most(ship, 2, 1, 1, 2);
        most(ship, 3, 1, 1, 2, 0);
    }

    private static void mostChangesNothing() {
        Ship ship = most(Ship.over(sea(6, 6, ";p0/35")), 5, 5, 0, 0, 0, 0, 0);
        ship.due("many 3", 33).due("many 4", 0).due("many 5", 1);
    }

    private static void flatOfOne() {
        Ship ship = Ship.over("f33" + "010" + "101" + "010" + ";p0/00");
        for (int cell = 0; cell < 9; cell++) ship.due("flat " + cell, 1);
        ship.due("flat -1", UNKNOWN).due("flat 9", UNKNOWN).due("flat MIN", UNKNOWN).due("flat MAX", UNKNOWN);
        new Ship().due("flat 0", UNKNOWN);
    }

    private static void flatOfAll() {
        Ship ship = Ship.over(sea(6, 6, ";p0/00"));
        for (int cell = 0; cell < 36; cell++) ship.due("flat " + cell, 36);
        ship.due("flat 36", UNKNOWN);
        Ship.over(sea(2, 2, ";p0/00")).due("flat 0", 4).due("flat 3", 4).due("flat 4", UNKNOWN);
    }

    private static void flatHangsNotByCorners() {
        Ship.over("f22" + "1001" + ";p0/00").due("flat 0", 1).due("flat 1", 1).due("flat 2", 1).due("flat 3", 1);
        Ship.over("f33" + "100" + "010" + "001" + ";p0/00").due("flat 0", 1).due("flat 4", 1).due("flat 8", 1).due("flat 1", 3).due("flat 6", 3);
    }

    private static void flatHangsNotOverTheSides() {
        // a row's end and the next one's begin; the first row and the last one
        Ship.over("f32" + "001" + "100" + ";p0/00").due("flat 2", 1).due("flat 3", 1).due("flat 0", 4).due("flat 5", 4);
        Ship.over("f23" + "11" + "00" + "11" + ";p0/00").due("flat 0", 2).due("flat 4", 2).due("flat 2", 2);
        Ship.over("f42" + "1001" + "2002" + ";p0/00").due("flat 0", 1).due("flat 3", 1).due("flat 4", 1).due("flat 7", 1).due("flat 1", 4);
        String six = "200000" + "000001" + "200000" + "000001" + "200000" + "000001";
        Ship.over("f66" + six + ";p0/00").due("flat 0", 1).due("flat 11", 1).due("flat 12", 1).due("flat 35", 1).due("flat 1", 30);
    }

    private static void flatOfARowAndOfAColumn() {
        Ship row = Ship.over("f62" + "555555" + "123456" + ";p0/00");
        for (int cell = 0; cell < 5; cell++) row.due("flat " + cell, 7);
        row.due("flat 10", 7).due("flat 11", 1).due("flat 6", 1);
        Ship column = Ship.over("f26" + "717273747576" + ";p0/00");
        for (int cell = 0; cell < 12; cell += 2) column.due("flat " + cell, 6).due("flat " + (cell + 1), 1);
    }

    private static void flatOfEachHeight() {
        Ship ship = Ship.over("f52" + "01234" + "56789" + ";p0/00");
        for (int cell = 0; cell < 10; cell++) ship.due("flat " + cell, 1);
        Ship nines = Ship.over("f22" + "9999" + ";p0/00").due("flat 3", 4);
        nines.due("heap 0 0", 9).due("flat 0", 1).due("flat 3", 3);
    }

    private static void flatFollowsHeap() {
        Ship ship = Ship.over("f32" + "101" + "111" + ";p0/00").due("flat 0", 5).due("flat 1", 1);
        ship.due("heap 4 0", 1).due("flat 0", 2).due("flat 2", 2).due("flat 1", 2).due("heap 1 1", 0).due("flat 0", 5).due("flat 4", 1);
    }

    private static void flatCountsNotWhatIsApart() {
        String winding = "000000" + "111110" + "000000" + "011111" + "000000" + "111110";
        Ship.over("f66" + winding + ";p0/00").due("flat 0", 21).due("flat 35", 21).due("flat 6", 5).due("flat 19", 5).due("flat 30", 5);
        String spiral = "000000" + "111110" + "000010" + "011010" + "011110" + "000000";
        Ship.over("f66" + spiral + ";p0/00").due("flat 0", 23).due("flat 12", 23).due("flat 6", 13);
    }

    private static Ship begun(Ship ship, int n, int sort, int count, int least, int greatest) {
        String call = "begun 1 2 0 " + n + " " + sort + " ";
        return ship.due(call + 0, count, 0).due(call + 1, least, 0).due(call + 2, greatest, 0);
    }

    private static Ship told(String sea, int... numbers) {
        return Ship.over(sea).row(1, 2, numbers);
    }

    private static void begunRowNumbers() {
        Ship ship = told(sea(2, 6, ";p0/00"), new int[60]);
        for (String n : new String[] {"MIN", "-1", "0", "7", "MAX"}) ship.due("begun 1 2 0 " + n + " 2 0", OUTSIDE, 0);
        for (int n = 1; n <= 6; n++) begun(ship, n, 2, 2 * (7 - n), 0, 2 * (7 - n) - 1);
    }

    private static void begunSortsAndWhats() {
        Ship ship = told(sea(2, 2, ";p0/00"), 0, 0);
        for (String sort : new String[] {"MIN", "-1", "4", "MAX"}) ship.due("begun 1 2 0 1 " + sort + " 0", OUTSIDE, 0);
        for (String what : new String[] {"MIN", "-1", "3", "MAX"}) ship.due("begun 1 2 0 1 0 " + what, OUTSIDE, 0);
        begun(ship, 2, 0, 2, 2, 3);
        begun(ship, 2, 1, 2, 0, 2);
        begun(ship, 2, 2, 2, 0, 1);
        begun(ship, 2, 3, 2, 1, 3);
    }

    private static void begunSheets() {
        Ship ship = Ship.over(sea(2, 2, ";p0/00")).row(0, 2, 0).row(3, 2, 0);
        ship.due("begun -1 2 0 1 0 0", UNKNOWN, 0).due("begun 0 2 0 1 0 0", 4, 0).due("begun 3 2 0 1 0 0", 4, 0).due("begun 4 2 0 1 0 0", UNKNOWN, 0);
        ship.due("begun 1 2 0 1 0 0", -11, 1).due("begun 1 0 -1 6 0 0", -11, 1).due("sheet 1 2 1", 1).due("begun 1 2 0 1 0 0", 4, 0);
        ship.due("lose 1", 1).due("begun 1 2 0 1 0 0", -11, 1);
    }

    private static void begunLanes() {
        Ship ship = Ship.over(sea(2, 2, ";p0/00")).row(1, 0, 0).row(2, 1, 0).row(3, 2, 0);
        for (int k = 1; k <= 3; k++) {
            for (int lane = -1; lane <= 3; lane++) {
                boolean isLane = lane >= 0 && lane <= 2;
                ship.due("begun " + k + " " + lane + " 0 1 0 0", !isLane ? OUTSIDE : lane == k - 1 ? 4 : -12, isLane && lane != k - 1 ? 2 : 0);
            }
        }
    }

    private static void begunPlacesOfARow() {
        Ship ship = told("f32" + "123456" + ";p0;p0/00", 9, 1, 2, 4, 5);
        ship.due("begun 1 2 1 2 2 1", 0, 0).due("begun 1 2 2 2 2 1", -13, 3).due("begun 1 2 1 1 2 1", 0, 0).due("begun 1 2 3 1 2 1", 3, 0);
        ship.due("begun 1 2 4 1 2 1", -13, 3).due("begun 1 2 5 1 2 1", -13, 3).due("begun 1 2 0 2 2 0", 0, 0).due("begun 1 2 0 3 2 0", -13, 3);
        ship.due("begun 1 2 -1 1 2 0", -13, 3).due("begun 1 2 -1 2 2 0", -13, 3);
        ship.due("begun 1 2 MIN 1 2 0", -13, 3).due("begun 1 2 MAX 6 2 0", -13, 3).due("begun 1 2 MAX 1 2 0", -13, 3);
    }

    private static void begunOfAnEmptySheet() {
        told(sea(2, 2, ";p0/00")).due("begun 1 2 0 1 0 0", -13, 3).due("begun 1 2 1 1 0 0", -13, 3).due("begun 1 1 0 1 0 0", -12, 2);
    }

    private static void begunOfTheMostCells() {
        int[] numbers = new int[60];
        Ship ship = told(sea(4, 6, ";p0;p0;p0;p0/00"), numbers);
        begun(ship, 6, 2, 1, 0, 0);
        begun(ship, 6, 0, 1, 20, 20);
        ship.due("begun 1 2 36 6 2 0", 1, 0).due("begun 1 2 37 6 2 0", -13, 3).due("begun 1 2 56 1 2 0", 6, 0).due("begun 1 2 57 1 2 0", -13, 3);
        ship.due("put 1 59 1", 1).due("begun 1 2 36 6 2 0", 0, 0).due("begun 1 2 36 6 2 1", NONE, 0).due("begun 1 2 35 6 2 0", 1, 0);
    }

    private static void begunOfAllPlaces() {
        begun(told(sea(6, 6, ";p0/00"), 0), 1, 0, 36, 0, 35);
        begun(told(sea(6, 6, ";p0;p0;p0;p0/00"), 0, 0, 0, 0), 1, 3, 18, 0, 32);
        begun(told(sea(2, 2, ";p0;p0/00"), 0, 0), 1, 1, 2, 0, 2);
    }

    private static void begunOfOnePlace() {
        begun(told("f22" + "1234" + ";p0/00", 1), 1, 0, 1, 0, 0);
        begun(told("f22" + "1234" + ";p0/00", 4), 1, 0, 1, 3, 3);
    }

    private static void begunOfNoPlace() {
        begun(told("f22" + "1234" + ";p0/00", 5), 1, 0, 0, NONE, NONE);
        begun(told("f22" + "1234" + ";p0/00", 0), 1, 0, 0, NONE, NONE);
    }

    private static void begunLeastAndGreatest() {
        begun(told("f33" + "123" + "321" + "111" + ";p0/00", 1), 1, 0, 5, 0, 8);
        begun(told("f33" + "123" + "321" + "111" + ";p0/00", 3), 1, 0, 2, 2, 3);
        begun(told("f33" + "123" + "321" + "111" + ";p0;p0/00", 1, 1), 1, 0, 2, 6, 7);
    }

    private static void begunBySteps() {
        String sea = "f33" + "123" + "456" + "789" + ";p0/11";
        begun(told(sea, 5, 2), 2, 0, 1, 4, 4);
        begun(told(sea, 5, 6), 2, 1, 1, 4, 4);
        begun(told(sea, 5, 8), 2, 2, 1, 4, 4);
        begun(told(sea, 5, 4), 2, 3, 1, 4, 4);
        begun(told(sea, 5, 4), 2, 0, 0, NONE, NONE);
        begun(told(sea, 7, 4, 1), 3, 0, 1, 6, 6);
        begun(told(sea, 7, 4, 2), 3, 0, 0, NONE, NONE);
        begun(told(sea, 7, 5, 1), 3, 0, 0, NONE, NONE);
        begun(told(sea, 8, 4, 1), 3, 0, 0, NONE, NONE);
    }

    private static void begunByAsManyRowsAsTheSeaIsLong() {
        Ship ship = told(sea(2, 3, ";p0/00"), new int[6]);
        begun(ship, 2, 0, 4, 2, 5);
        begun(ship, 3, 0, 2, 4, 5);
        begun(ship, 4, 0, 0, NONE, NONE);
        begun(ship, 3, 2, 2, 0, 1);
        begun(ship, 4, 2, 0, NONE, NONE);
        begun(ship, 6, 2, 0, NONE, NONE);
    }

    private static void begunByAsManyRowsAsTheSeaIsWide() {
        Ship ship = told(sea(5, 2, ";p0;p0;p0/00"), new int[18]);
        begun(ship, 3, 1, 2, 0, 5);
        begun(ship, 4, 1, 0, NONE, NONE);
        begun(ship, 3, 3, 2, 2, 7);
        begun(ship, 4, 3, 0, NONE, NONE);
        begun(ship, 2, 3, 4, 1, 7);
    }

    private static void begunOfThoseLeft() {
        Ship ship = told("f32" + "123456" + ";p0;p0/00", 99, 5);
        begun(ship, 1, 0, 0, NONE, NONE);
        ship.due("scrape 0", 1);
        begun(ship, 1, 0, 1, 3, 3);
        ship.due("begun 1 2 1 1 0 0", -13, 3).due("grow 0", 2).due("scrape 1", 1).due("put 1 0 5", 1).due("put 1 1 -7", 1);
        begun(ship, 1, 0, 1, 4, 4);
        ship.due("put 1 0 3", 1);
        begun(ship, 1, 0, 0, NONE, NONE);
    }

    private static void begunWhenAllAreGone() {
        Ship ship = told("f32" + "123456" + ";p0;p0/00", 99, MIN, 99, MAX).due("scrape 0", 1).due("scrape 1", 0);
        begun(ship, 1, 0, 4, 0, 4);
        begun(ship, 2, 0, 2, 3, 4);
        begun(ship, 2, 1, 2, 0, 3);
        ship.due("begun 1 2 0 3 0 0", -13, 3);
    }

    private static void begunOfNumbersThatNoneTells() {
        for (int number : new int[] {MIN, -1, 10, 21, 256, MAX}) begun(told(sea(2, 2, ";p0/00"), number), 1, 0, 0, NONE, NONE);
        begun(told("f22" + "9999" + ";g0/00", 20), 1, 0, 4, 0, 3);
        begun(told("f22" + "9999" + ";g0/00", 21), 1, 0, 0, NONE, NONE);
        begun(told("f22" + "9999" + ";g0/00", 19), 1, 0, 0, NONE, NONE);
        begun(told("f22" + "0000" + ";d9/00", 1), 1, 0, 4, 0, 3);
        begun(told("f22" + "0000" + ";d9/00", 0), 1, 0, 0, NONE, NONE);
    }

    private static void begunOfCutNumbers() {
        Ship ship = Ship.over("f22" + "1234" + ";p0/00").row(1, 0, 256 + 3).row(2, 1, 65536 + 3).row(3, 2, 256 + 3);
        ship.due("begun 1 0 0 1 0 1", 2, 0).due("begun 2 1 0 1 0 1", 2, 0).due("begun 3 2 0 1 0 1", NONE, 0);
    }

    private static void begunIsNotWhereTheShipIs() {
        Ship ship = told("f22" + "1234" + ";p0/11", 2);
        begun(ship, 1, 0, 1, 1, 1);
        ship.due("step 0", 1).due("step 3", 1);
        begun(ship, 1, 0, 1, 1, 1);
    }

    private static void begunFollowsHeapAndDim() {
        Ship ship = told("f22" + "1234" + ";p0/00", 2).due("dim 0 1", 0);
        begun(ship, 1, 0, 1, 2, 2);
        ship.due("heap 0 3", 1);
        begun(ship, 1, 0, 2, 0, 2);
        ship.due("heap 2 4", 3);
        begun(ship, 1, 0, 1, 0, 0);
    }

    private static void begunChangesNothing() {
        Ship ship = begun(told(sea(2, 3, ";p0/00"), new int[6]), 3, 2, 2, 0, 1);
        ship.due("many 3", 0).due("many 4", 0).due("seen", 1).rowIs(1, 2, new int[6]);
    }

    private static Ship run(Ship ship, int i, int n, int length, int next) {
        return ship.due("run 1 2 " + i + " " + n + " 0", length, 0).due("run 1 2 " + i + " " + n + " 1", next, 0);
    }

    private static Ship row(int... numbers) {
        return new Ship().row(1, 2, numbers);
    }

    private static void runNumbers() {
        Ship ship = row(new int[60]);
        for (String n : new String[] {"MIN", "-1", "0", "41", "60", "MAX"}) ship.due("run 1 2 0 " + n + " 0", OUTSIDE, 0);
        run(run(ship, 0, 1, 1, 0), 0, 40, 1, 0);
        run(run(ship, 59, 1, 1, 0), 20, 40, 1, 0).due("run 1 2 21 40 0", -13, 3).due("run 1 2 60 1 0", -13, 3);
    }

    private static void runWhats() {
        Ship ship = row(5);
        for (String what : new String[] {"MIN", "-1", "2", "MAX"}) ship.due("run 1 2 0 1 " + what, OUTSIDE, 0);
        run(ship, 0, 1, 1, 5);
    }

    private static void runSheets() {
        Ship ship = new Ship().row(0, 2, 4).row(3, 2, 5);
        ship.due("run -1 2 0 1 1", UNKNOWN, 0).due("run 0 2 0 1 1", 4, 0).due("run 3 2 0 1 1", 5, 0).due("run 4 2 0 1 1", UNKNOWN, 0);
        ship.due("run 1 2 0 1 1", -11, 1).due("run 1 0 -1 40 1", -11, 1).due("sheet 1 2 1", 1).due("run 1 2 0 1 1", 0, 0);
        ship.due("lose 1", 1).due("run 1 2 0 1 1", -11, 1);
    }

    private static void runLanes() {
        Ship ship = new Ship().row(1, 0, 7).row(2, 1, 7).row(3, 2, 7);
        for (int k = 1; k <= 3; k++) {
            for (int lane = -1; lane <= 3; lane++) {
                boolean isLane = lane >= 0 && lane <= 2;
                ship.due("run " + k + " " + lane + " 0 1 1", !isLane ? OUTSIDE : lane == k - 1 ? 7 : -12, isLane && lane != k - 1 ? 2 : 0);
            }
        }
    }

    private static void runPlaces() {
        Ship ship = run(run(row(1, 2, 3), 0, 3, 3, 1), 2, 1, 1, 3);
        for (String place : new String[] {"0 4", "1 3", "2 2", "3 1", "4 1", "-1 1", "-1 4", "MAX 1", "MAX 40", "MIN 1", "MIN 40"}) {
            ship.due("run 1 2 " + place + " 0", -13, 3).due("run 1 2 " + place + " 1", -13, 3);
        }
        row().due("run 1 2 0 1 0", -13, 3);
    }

    private static void runOfOne() {
        run(run(run(row(9, -9, 0), 0, 1, 1, 9), 1, 1, 1, -9), 2, 1, 1, 0);
    }

    private static void runOfAllAlike() {
        Ship ship = row(7, 7, 7, 7, 8);
        for (int n = 1; n <= 4; n++) run(ship, 0, n, 1, 7);
        run(ship, 0, 5, 5, 7);
    }

    private static void runOfAllUnlike() {
        Ship ship = row(1, 2, 3, 4, 5);
        for (int n = 1; n <= 5; n++) run(ship, 0, n, n, 1);
        run(ship, 2, 3, 3, 3);
    }

    private static void runEndsInPart() {
        run(run(row(1, 2, 3, 1, 2), 0, 5, 3, 3), 0, 4, 3, 2);
        run(row(1, 1, 2, 1, 1), 0, 5, 3, 2);
        run(row(1, 1, 2, 1, 2), 0, 5, 5, 1);
    }

    private static void runEndsWhole() {
        run(run(row(1, 2, 3, 1, 2, 3), 0, 6, 3, 1), 1, 5, 3, 1);
        run(row(1, 2, 1, 2, 1, 2), 0, 6, 2, 1);
    }

    private static void runIsTheLeast() {
        run(row(1, 2, 1, 2, 1, 2, 1, 2), 0, 8, 2, 1);
        run(row(1, 2, 2, 1, 2, 2, 1), 0, 7, 3, 2);
        run(row(1, 2, 1, 1, 2, 1, 1), 0, 7, 3, 2);
        run(row(1, 2, 3, 4, 1), 0, 5, 4, 2);
        run(row(1, 2, 3, 4, 2), 0, 5, 5, 1);
    }

    private static void runOfForty() {
        int[] numbers = new int[60];
        for (int p = 0; p < 60; p++) numbers[p] = p;
        run(row(numbers), 0, 40, 40, 0);
        numbers[39] = 0;
        run(row(numbers), 0, 40, 39, 1);
        Arrays.setAll(numbers, p -> p % 20);
        run(row(numbers), 0, 40, 20, 0);
        Arrays.setAll(numbers, p -> p % 21);
        run(row(numbers), 0, 40, 21, 19);
        run(row(numbers), 20, 40, 21, 18);
    }

    private static void runOfTheEndsOfTheInts() {
        run(row(MIN, MAX, MIN, MAX, MIN), 0, 5, 2, MAX);
        run(row(MIN, 0, MIN), 0, 3, 2, 0);
        run(row(MIN, MIN), 0, 2, 1, MIN);
    }

    private static void runOfCutNumbers() {
        Ship ship = new Ship().row(1, 0, 200, -56, 456).row(2, 1, 40000, -25536, 40000 + 65536).row(3, 2, 200, -56, 456);
        ship.due("run 1 0 0 3 0", 1, 0).due("run 1 0 0 3 1", -56, 0).due("run 2 1 0 3 0", 1, 0).due("run 2 1 0 3 1", -25536, 0);
        ship.due("run 3 2 0 3 0", 3, 0).due("run 3 2 0 3 1", 200, 0);
    }

    private static void runNeedsNoSea() {
        run(row(3, 4, 3), 0, 3, 2, 4).due("many 0", 0).due("seen", HullCharts.LOST);
        Ship ship = Ship.over(sea(2, 2, ";p0/00")).row(1, 2, 3, 4, 3).due("scrape 0", 0);
        run(ship, 0, 3, 2, 4);
    }

    private static void runChangesNothing() {
        run(row(3, 4, 3), 0, 3, 2, 4).rowIs(1, 2, 3, 4, 3);
    }
}
