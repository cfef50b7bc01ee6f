/** Promises 10 and 11 at their edges: the sea's sides, those who are GONE, voyages of no and of forty STEPS. */
public final class StepEdgesTest {
    private static final int NONE = HullCharts.NONE;
    private static final int OUTSIDE = HullCharts.OUTSIDE;
    private static final int STATE = HullCharts.STATE;
    private static final int UNKNOWN = HullCharts.UNKNOWN;
    /** Three columns, four rows. */
    private static final String TALL = "f34" + "123" + "456" + "789" + "024" + ";p1;d2" + "/00";

    private StepEdgesTest() {
    }

    public static void main(String[] args) {
        stepSorts();
        stepSortIsAskedAheadOfTheSea();
        theUpperSide();
        theRightSide();
        theLowerSide();
        theLeftSide();
        eachSideForEachManyLookers();
        lookersAsManyAsColumns();
        theLeastSea();
        aRowsEndIsNotTheNextOnesBegin();
        thoseWhoAreGoneStopAStep();
        stepsOfAllGone();
        aStepSeesOneByOne();
        aStepThatCantBeChangesNothing();
        stepsAreCounted();
        voyageOfNoSteps();
        voyageOfOneStep();
        voyageOfFortySteps();
        voyageOfFortyOne();
        voyageWhats();
        voyageSheets();
        voyageLanes();
        voyagePlaces();
        voyageOfAnEmptySheet();
        voyageOfALongestSheet();
        voyageCellsThatAreNoSteps();
        noStepAmongCellsThatAreNotTaken();
        noStepBehindTheFirstWrong();
        firstWrongAtTheFirst();
        firstWrongAtTheLast();
        firstWrongOfSeveral();
        firstWrongAtEachSide();
        voyageSeesEachCellOnce();
        voyageSeesNotWhatWasSeen();
        voyageSeesNotWhereItBegins();
        voyageTellsBehindEachStep();
        voyageTellsTheMost();
        voyageTellsNothingWhenAllAreGone();
        voyageTellsZero();
        voyageOfThoseLeft();
        voyageFollowsHeapAndDim();
        voyageChangesNothing();
        voyageGoesFromWhereTheShipIs();
        Due.end();
    }

    private static void stepSorts() {
        Ship ship = Ship.over("f33" + "000000000" + ";p0/11");
        ship.due("step MIN", OUTSIDE).due("step -1", OUTSIDE).due("step 4", OUTSIDE).due("step MAX", OUTSIDE).due("many 4", 0);
        ship.due("step 0", 1).due("many 3", 1).due("step 1", 1).due("many 3", 2).due("step 2", 1).due("many 3", 5).due("step 3", 0).due("many 3", 4);
    }

    private static void stepSortIsAskedAheadOfTheSea() {
        new Ship().due("step -1", OUTSIDE).due("step 4", OUTSIDE).due("step 0", STATE).due("step 3", STATE).due("many 4", 0);
        Ship.over("f220000;p0/00").due("step 4", OUTSIDE).due("step 0", STATE);
    }

    private static void theUpperSide() {
        Ship.over(TALL).due("step 0", STATE).due("step 2", 2).due("step 0", 0).due("many 3", 0).due("step 0", STATE).due("many 4", 2);
    }

    private static void theRightSide() {
        Ship.over(TALL).due("step 1", 1).due("many 3", 1).due("step 1", STATE).due("many 3", 1);
        Ship.over("f34" + "000000000000" + ";p0/00").due("step 1", 1).due("step 1", 1).due("step 1", STATE).due("many 3", 2);
    }

    private static void theLowerSide() {
        Ship.over(TALL).due("step 2", 2).due("step 2", 2).due("step 2", 2).due("many 3", 9).due("step 2", STATE).due("many 3", 9);
    }

    private static void theLeftSide() {
        Ship.over(TALL).due("step 3", STATE).due("step 1", 1).due("step 3", 0).due("many 3", 0).due("step 3", STATE);
    }

    private static void eachSideForEachManyLookers() {
        for (int wide = 2; wide <= 6; wide++) {
            for (int lookers = 1; lookers <= Math.min(4, wide); lookers++) {
                Ship ship = Ship.over("f" + wide + "2" + "0".repeat(2 * wide) + ";p0".repeat(lookers) + "/00");
                ship.due("step 3", STATE).due("step 0", STATE);
                for (int column = lookers; column < wide; column++) ship.due("step 1", 1);
                ship.due("step 1", STATE).due("many 3", wide - lookers).due("many 5", wide).due("step 2", lookers).due("step 2", STATE);
                for (int column = lookers; column < wide; column++) ship.due("step 3", 1);
                ship.due("step 3", STATE).due("many 3", wide).due("many 5", 2 * wide).due("step 0", 0);
            }
        }
    }

    private static void lookersAsManyAsColumns() {
        Ship.over("f22" + "0000" + ";p0;p0/01").due("step 1", STATE).due("step 3", STATE).due("step 2", STATE).due("step 0", 2).due("many 5", 4);
        Ship.over("f46" + "0".repeat(24) + ";p0;p0;p0;p0/05").due("step 1", STATE).due("step 3", STATE).due("step 2", STATE).due("step 0", 4);
    }

    private static void theLeastSea() {
        Ship.over("f220000;p0/00").due("step 1", 1).due("step 2", 1).due("step 3", 1).due("step 0", 0).due("many 5", 4).due("many 4", 4);
    }

    private static void aRowsEndIsNotTheNextOnesBegin() {
        Ship.over("f32" + "000000" + ";p0/20").due("step 1", STATE).due("many 3", 2);
        Ship.over("f32" + "000000" + ";p0/01").due("step 3", STATE).due("many 3", 3);
        Ship.over("f32" + "000000" + ";p0;p0/10").due("step 1", STATE).due("many 3", 1);
    }

    private static void thoseWhoAreGoneStopAStep() {
        Ship.over("f32" + "000000" + ";p0;p0/10").due("scrape 1", 1).due("step 1", STATE).due("many 3", 1);
        Ship.over("f32" + "000000" + ";p0;p0/00").due("scrape 0", 1).due("step 3", STATE).due("step 0", STATE).due("step 2", 1);
    }

    private static void stepsOfAllGone() {
        Ship ship = Ship.over("f32" + "000000" + ";p0;p0/00").due("scrape 0", 1).due("scrape 1", 0);
        ship.due("step 2", 0).due("step 1", 0).due("step 1", STATE).due("many 3", 4).due("many 4", 2).due("many 5", 2).due("seen", 3);
    }

    private static void aStepSeesOneByOne() {
        Ship ship = Ship.over("f53" + "0".repeat(15) + ";p0;p0;p0/11").due("scrape 1", 2).due("seen", 7 << 6);
        ship.due("step 1", 1).due("many 5", 4).due("step 3", 0).due("step 3", 1).due("many 5", 5).due("step 0", 2).due("many 5", 7);
        ship.due("step 1", 2).due("many 5", 9).due("step 3", 0).due("many 5", 9);
    }

    private static void aStepThatCantBeChangesNothing() {
        Ship ship = Ship.over(TALL).due("reading 0 1 0", 0);
        ship.due("step 0", STATE).due("step 3", STATE).due("step 4", OUTSIDE).due("step -1", OUTSIDE);
        ship.due("many 3", 0).due("many 4", 0).due("many 5", 2).due("many 6", 1).due("seen", 3).due("trace", 0);
    }

    private static void stepsAreCounted() {
        Ship ship = Ship.over("f220000;p0/00");
        for (int turn = 0; turn < 100; turn++) {
            Due.due("step", ship.ask("step", turn % 2 == 0 ? 1 : 3), turn == 0 ? 1 : 0);
            Due.due("steps done", ship.ask("many", 4), turn + 1);
        }
    }

    private static Ship tall(int... steps) {
        return Ship.over(TALL).row(1, 2, steps);
    }

    private static void voyageIs(Ship ship, int i, int n, int fresh, int together, int most, int place) {
        String call = "voyage 1 2 " + i + " " + n + " ";
        ship.due(call + 0, fresh, 0).due(call + 1, NONE, 0).due(call + 2, together, 0).due(call + 3, most, 0).due(call + 4, place, 0);
    }

    private static void wrongIs(Ship ship, int i, int n, int wrong) {
        String call = "voyage 1 2 " + i + " " + n + " ";
        ship.due(call + 1, wrong, 0);
        for (int what : new int[] {0, 2, 3, 4}) ship.due(call + what, -100 - wrong, 0);
    }

    private static void voyageOfNoSteps() {
        voyageIs(tall(2), 0, 0, 0, 0, NONE, 0);
        voyageIs(tall(2), 1, 0, 0, 0, NONE, 0);
        voyageIs(tall(2).due("step 2", 2), 0, 0, 0, 0, NONE, 3);
        voyageIs(tall(), 0, 0, 0, 0, NONE, 0);
    }

    private static void voyageOfOneStep() {
        // down: over 3 and 4, heights 4 and 5: PLAIN 3, DEEP 4
        voyageIs(tall(2), 0, 1, 2, 7, 4, 3);
        voyageIs(tall(1), 0, 1, 1, 3, 2, 1);
        wrongIs(tall(0), 0, 1, 0);
        wrongIs(tall(3), 0, 1, 0);
    }

    private static int[] forty(int even, int odd) {
        int[] steps = new int[40];
        for (int p = 0; p < 40; p++) steps[p] = p % 2 == 0 ? even : odd;
        return steps;
    }

    private static void voyageOfFortySteps() {
        // down and up: PLAIN 3 and 0, DEEP 4 and 1
        voyageIs(tall(forty(2, 0)), 0, 40, 2, 20 * 7 + 20 * 1, 4, 0);
        voyageIs(tall(forty(2, 0)), 0, 39, 2, 20 * 7 + 19 * 1, 4, 3);
        voyageIs(tall(forty(2, 0)), 1, 0, 0, 0, NONE, 0);
        Ship ship = Ship.over("f22" + "9999" + ";g0;g0/00").row(1, 2, forty(2, 0)).due("voyage 1 2 0 40 2", 40 * 2 * 20).due("voyage 1 2 0 40 3", 20);
        ship.due("scrape 0", 1).due("voyage 1 2 0 40 2", 40 * 20);
    }

    private static void voyageOfFortyOne() {
        Ship ship = Ship.over(TALL).due("sheet 1 2 60", 1);
        for (int what = 0; what <= 4; what++) ship.due("voyage 1 2 0 41 " + what, OUTSIDE, 0);
        ship.due("voyage 1 2 0 -1 0", OUTSIDE, 0).due("voyage 1 2 0 MIN 0", OUTSIDE, 0).due("voyage 1 2 0 MAX 0", OUTSIDE, 0);
        ship.due("voyage 1 2 0 40 1", 0, 0).due("voyage 1 2 0 0 1", NONE, 0);
    }

    private static void voyageWhats() {
        Ship ship = tall(2);
        ship.due("voyage 1 2 0 1 MIN", OUTSIDE).due("voyage 1 2 0 1 -1", OUTSIDE).due("voyage 1 2 0 1 5", OUTSIDE).due("voyage 1 2 0 1 MAX", OUTSIDE);
        voyageIs(ship, 0, 1, 2, 7, 4, 3);
    }

    private static void voyageSheets() {
        Ship ship = Ship.over(TALL).row(0, 2, 2).row(3, 2, 1);
        ship.due("voyage -1 2 0 1 4", UNKNOWN, 0).due("voyage 0 2 0 1 4", 3, 0).due("voyage 3 2 0 1 4", 1, 0).due("voyage 4 2 0 1 4", UNKNOWN, 0);
        ship.due("voyage 1 2 0 1 4", -11, 1).due("voyage 1 0 -1 0 0", -11, 1).due("sheet 1 2 1", 1).due("voyage 1 2 0 1 1", 0, 0);
        ship.due("lose 1", 1).due("voyage 1 2 0 1 1", -11, 1);
    }

    private static void voyageLanes() {
        Ship ship = Ship.over(TALL).row(1, 0, 2).row(2, 1, 2).row(3, 2, 2);
        for (int k = 1; k <= 3; k++) {
            for (int lane = -1; lane <= 3; lane++) {
                boolean isLane = lane >= 0 && lane <= 2;
                ship.due("voyage " + k + " " + lane + " 0 1 4", !isLane ? OUTSIDE : lane == k - 1 ? 3 : -12, isLane && lane != k - 1 ? 2 : 0);
            }
        }
    }

    private static void voyagePlaces() {
        Ship ship = tall(2, 1, 2);
        ship.due("voyage 1 2 0 3 4", 7, 0).due("voyage 1 2 0 4 4", -13, 3).due("voyage 1 2 1 2 4", 4, 0).due("voyage 1 2 1 3 4", -13, 3);
        ship.due("voyage 1 2 2 1 4", 3, 0).due("voyage 1 2 2 2 4", -13, 3).due("voyage 1 2 3 0 4", 0, 0).due("voyage 1 2 3 1 4", -13, 3);
        ship.due("voyage 1 2 4 0 4", -13, 3).due("voyage 1 2 -1 0 4", -13, 3).due("voyage 1 2 -1 1 4", -13, 3);
        ship.due("voyage 1 2 MAX 40 4", -13, 3).due("voyage 1 2 MAX 0 4", -13, 3).due("voyage 1 2 MIN 40 4", -13, 3);
    }

    private static void voyageOfAnEmptySheet() {
        tall().due("voyage 1 2 0 0 4", 0, 0).due("voyage 1 2 0 1 4", -13, 3).due("voyage 1 2 1 0 4", -13, 3).due("voyage 1 1 0 0 4", -12, 2);
    }

    private static void voyageOfALongestSheet() {
        Ship ship = Ship.over(TALL).due("sheet 1 0 60", 1).due("put 1 59 2", 1);
        ship.due("voyage 1 0 59 1 4", 3, 0).due("voyage 1 0 60 0 4", 0, 0).due("voyage 1 0 59 2 4", -13, 3).due("voyage 1 0 61 0 4", -13, 3);
        ship.due("voyage 1 0 20 40 1", 0, 0).due("voyage 1 0 21 40 1", -13, 3);
    }

    private static void voyageCellsThatAreNoSteps() {
        for (int no : new int[] {Integer.MIN_VALUE, -128, -1, 4, 48, 50, 258, Integer.MAX_VALUE}) {
            Ship ship = tall(2, no, 0);
            for (int what = 0; what <= 4; what++) ship.due("voyage 1 2 0 3 " + what, OUTSIDE, 0).due("voyage 1 2 1 1 " + what, OUTSIDE, 0);
        }
        Ship ship = Ship.over(TALL).row(1, 0, 258, 256, -254, 259).due("voyage 1 0 0 2 4", 0, 0).due("voyage 1 0 2 1 4", 3, 0);
        ship.due("voyage 1 0 3 1 1", 0, 0);
        tall(0, 3).due("voyage 1 2 0 1 1", 0).due("voyage 1 2 1 1 1", 0);
    }

    private static void noStepAmongCellsThatAreNotTaken() {
        tall(4, 2, -1).due("voyage 1 2 1 1 4", 3, 0).due("voyage 1 2 0 1 4", OUTSIDE, 0).due("voyage 1 2 1 2 4", OUTSIDE, 0).due("voyage 1 2 2 0 4", 0, 0);
    }

    private static void noStepBehindTheFirstWrong() {
        Ship ship = tall(0, 4);
        for (int what = 0; what <= 4; what++) ship.due("voyage 1 2 0 2 " + what, OUTSIDE, 0);
        wrongIs(ship, 0, 1, 0);
        ship.due("voyage 1 2 0 3 0", -13, 3);
    }

    private static void firstWrongAtTheFirst() {
        wrongIs(tall(0, 2, 2), 0, 3, 0);
        wrongIs(tall(3, 2, 2), 0, 1, 0);
    }

    private static void firstWrongAtTheLast() {
        int[] steps = forty(2, 0);
        steps[39] = 3;
        wrongIs(tall(steps), 0, 40, 39);
        voyageIs(tall(steps), 0, 39, 2, 20 * 7 + 19 * 1, 4, 3);
        wrongIs(tall(2, 2, 2, 2), 0, 4, 3);
    }

    private static void firstWrongOfSeveral() {
        wrongIs(tall(2, 3, 1, 1, 3), 0, 5, 1);
        wrongIs(tall(2, 3, 1, 1, 3), 2, 3, 1);
        wrongIs(tall(1, 1, 1, 1), 0, 4, 1);
    }

    private static void firstWrongAtEachSide() {
        wrongIs(tall(2, 0, 0), 0, 3, 2);
        wrongIs(tall(2, 2, 2, 2), 0, 4, 3);
        wrongIs(tall(1, 1), 0, 2, 1);
        wrongIs(tall(1, 3, 3), 0, 3, 2);
        Ship ship = tall(1, 1).due("scrape 1", 1);
        wrongIs(ship, 0, 2, 1);
        ship.due("scrape 0", 0);
        wrongIs(ship, 0, 2, 1);
    }

    private static void voyageSeesEachCellOnce() {
        tall(2, 0, 2, 1, 3).due("voyage 1 2 0 5 0", 3).due("voyage 1 2 0 1 0", 2).due("voyage 1 2 0 3 0", 2);
    }

    private static void voyageSeesNotWhatWasSeen() {
        Ship ship = tall(0, 1, 2, 2).due("step 2", 2);
        ship.due("voyage 1 2 0 1 0", 0).due("voyage 1 2 0 2 0", 1).due("voyage 1 2 0 3 0", 2).due("voyage 1 2 0 4 0", 4);
    }

    private static void voyageSeesNotWhereItBegins() {
        // behind growing, what LOOKER 1 is over is SEEN; GONE, it is not
        Ship ship = Ship.over("f23" + "000000" + ";p0;p0/00").row(1, 2, 2, 0).due("scrape 1", 1).due("step 2", 1).due("step 2", 1);
        ship.due("voyage 1 2 1 1 0", 0).due("grow 1", 2).due("voyage 1 2 1 1 0", 1).due("voyage 1 2 1 0 0", 0);
        // cell 0 is not SEEN yet, and is not met
        voyageIs(Ship.over("f22" + "0000" + ";p0/11").row(1, 2, 0), 0, 1, 1, 0, 0, 1);
    }

    private static void voyageTellsBehindEachStep() {
        // behind them: 3 and 4, 6 and 7, 7 and 8, 0 and 3
        Ship ship = tall(2, 2, 1, 2);
        int[] together = {0, 7, 20, 35, 39};
        for (int n = 0; n <= 4; n++) ship.due("voyage 1 2 0 " + n + " 2", together[n]);
        ship.due("voyage 1 2 3 1 2", 7).due("voyage 1 2 4 0 2", 0);
    }

    private static void voyageTellsTheMost() {
        Ship ship = tall(2, 2, 1, 2);
        int[] most = {NONE, 4, 7, 8, 8};
        for (int n = 0; n <= 4; n++) ship.due("voyage 1 2 0 " + n + " 3", most[n]);
        // the most is told at first, in between and by LOOKER 0
        tall(2, 0).due("voyage 1 2 0 2 3", 4);
        tall(2, 2, 2).due("voyage 1 2 0 3 3", 7);
        tall(2, 2).due("dim 1 9", 2).due("voyage 1 2 0 2 3", 6);
    }

    private static void voyageTellsNothingWhenAllAreGone() {
        Ship ship = tall(2, 2).due("scrape 0", 1).due("scrape 1", 0);
        voyageIs(ship, 0, 2, 0, 0, NONE, 6);
        voyageIs(ship, 0, 0, 0, 0, NONE, 0);
    }

    private static void voyageTellsZero() {
        Ship ship = Ship.over("f22" + "0000" + ";p0/00").row(1, 2, 2, 0);
        ship.due("voyage 1 2 0 1 3", 0).due("voyage 1 2 0 2 3", 0).due("voyage 1 2 0 0 3", NONE).due("voyage 1 2 0 2 2", 0);
    }

    private static void voyageOfThoseLeft() {
        voyageIs(tall(2, 2, 1).due("scrape 0", 1), 0, 3, 3, 4 + 7 + 8, 8, 7);
        voyageIs(tall(2, 2, 1).due("scrape 1", 1), 0, 3, 3, 3 + 6 + 7, 7, 7);
    }

    private static void voyageFollowsHeapAndDim() {
        Ship ship = tall(2).due("heap 3 9", 4).due("dim 0 0", 1);
        voyageIs(ship, 0, 1, 2, 9 + 4, 9, 3);
        ship.due("heap 3 0", 9).due("dim 0 9", 0);
        voyageIs(ship, 0, 1, 2, 0 + 4, 4, 3);
    }

    private static void voyageChangesNothing() {
        Ship ship = tall(2, 2, 1, 1);
        for (int what = 0; what <= 4; what++) ship.due("voyage 1 2 0 3 " + what, new int[] {5, NONE, 35, 8, 7}[what]);
        ship.due("voyage 1 2 0 4 0", -103).due("many 3", 0).due("many 4", 0).due("many 5", 2).due("seen", 3).due("trace", 0);
        ship.rowIs(1, 2, 2, 2, 1, 1);
    }

    private static void voyageGoesFromWhereTheShipIs() {
        Ship ship = tall(0, 3).due("voyage 1 2 0 1 1", 0).due("step 2", 2).due("voyage 1 2 0 1 4", 0).due("voyage 1 2 0 2 1", 1);
        ship.due("step 1", 1).due("voyage 1 2 0 2 4", 0).due("voyage 1 2 1 1 4", 3);
    }
}
