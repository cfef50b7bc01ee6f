import java.util.Arrays;

/** Promises 22 to 26 at their edges: SHEETS from nothing to sixty cells, LANES, copies on to themselves. */
public final class SheetEdgesTest {
    private static final int MIN = Integer.MIN_VALUE;
    private static final int MAX = Integer.MAX_VALUE;
    private static final int OUTSIDE = HullCharts.OUTSIDE;
    private static final int UNKNOWN = HullCharts.UNKNOWN;
    private static final long LOST = HullCharts.LOST;
    /** A number, and what is left of it in a byte and in a short. */
    private static final int[][] CUT = {{0, 0, 0}, {127, 127, 127}, {128, -128, 128}, {255, -1, 255}, {256, 0, 256}, {257, 1, 257},
        {-1, -1, -1}, {-128, -128, -128}, {-129, 127, -129}, {-256, 0, -256}, {-257, -1, -257}, {32767, -1, 32767},
        {32768, 0, -32768}, {32769, 1, -32767}, {65535, -1, -1}, {65536, 0, 0}, {-32768, 0, -32768}, {-32769, -1, 32767},
        {-65536, 0, 0}, {-65537, -1, -1}, {MAX, -1, -1}, {MIN, 0, 0}, {MAX - 128, 127, -129}, {MIN + 128, -128, 128}};

    private SheetEdgesTest() {
    }

    public static void main(String[] args) {
        sheetNumbers();
        sheetLanes();
        sheetLengths();
        sheetRefusalsInTheirOrder();
        anEmptyRow();
        aLongestRow();
        aNewRowIsZero();
        aNewRowOfTheSameLength();
        aNewRowIsShorter();
        aNewRowIsLonger();
        aNewRowOfAnotherLane();
        aRefusedSheetKeepsItsRow();
        aRefusedSheetKeepsNothing();
        loseNumbers();
        loseTwice();
        loseAheadOfAny();
        loseAnEmptyRow();
        loseOneOfFour();
        nothingBehindSomething();
        putSheets();
        putPlaces();
        putIntoNothing();
        putCutsToItsLane();
        putAgain();
        putChangesOneCell();
        cellSheets();
        cellLanes();
        cellPlaces();
        cellOfNothing();
        cellFaultsInTheirOrder();
        cellOfTheEndsOfTheInts();
        copySheets();
        copyOfNothing();
        copyLanes();
        copyNumbers();
        copyPlaces();
        copyFaultsInTheirOrder();
        copyOfNone();
        copyOfSixty();
        copyOfOne();
        copyForwardOnToItself();
        copyBackwardOnToItself();
        copyOnToTheSamePlace();
        copyToAShorterRow();
        copyLeavesTheRest();
        copyKeepsTheNumbers();
        aCopyIsNoTie();
        aRefusedCopyChangesNothing();
        sheetsAreApart();
        Due.end();
    }

    private static void sheetNumbers() {
        Ship ship = new Ship();
        for (String k : new String[] {"MIN", "-1", "4", "MAX"}) ship.due("sheet " + k + " 0 1", UNKNOWN, 0);
        for (int k = 0; k <= 3; k++) ship.nothing(k);
        for (int k = 0; k <= 3; k++) ship.due("sheet " + k + " 0 1", 1, 0).rowIs(k, 0, 0);
    }

    private static void sheetLanes() {
        Ship ship = new Ship();
        for (String lane : new String[] {"MIN", "-1", "3", "MAX"}) ship.due("sheet 0 " + lane + " 1", OUTSIDE, 0).nothing(0);
        for (int lane = 0; lane <= 2; lane++) ship.due("sheet 0 " + lane + " 1", 1, 0).rowIs(0, lane, 0);
    }

    private static void sheetLengths() {
        Ship ship = new Ship();
        ship.due("sheet 0 0 MIN", -14, 4).due("sheet 0 0 -1", -14, 4).due("sheet 0 0 61", OUTSIDE, 0).due("sheet 0 0 MAX", OUTSIDE, 0).nothing(0);
        ship.due("sheet 0 0 0", 1, 0).rowIs(0, 0).due("sheet 0 0 1", 1, 0).rowIs(0, 0, 0);
        ship.due("sheet 0 0 59", 1, 0).rowIs(0, 0, new int[59]).due("sheet 0 0 60", 1, 0).rowIs(0, 0, new int[60]);
    }

    private static void sheetRefusalsInTheirOrder() {
        new Ship().due("sheet 4 3 61", UNKNOWN, 0).due("sheet -1 0 -1", UNKNOWN, 0).due("sheet 4 0 -1", UNKNOWN, 0).due("sheet 0 3 -1", OUTSIDE, 0)
            .due("sheet 0 -1 -1", OUTSIDE, 0).due("sheet 0 3 61", OUTSIDE, 0).due("sheet 0 0 -1", -14, 4).due("sheet 0 2 MIN", -14, 4);
    }

    private static void anEmptyRow() {
        for (int lane = 0; lane <= 2; lane++) {
            Ship ship = new Ship().due("sheet 2 " + lane + " 0", 1).rowIs(2, lane).due("cell 2 -1 " + lane, LOST, 3).due("put 2 0 1", -13, 3);
            ship.due("put 2 -1 1", -13, 3).due("copy 2 0 2 0 0", 0, 0).due("copy 2 0 2 0 1", -13, 3).due("copy 2 1 2 0 0", -13, 3);
            ship.due("cell 2 0 " + (lane + 1) % 3, LOST, 2).due("lose 2", 1).nothing(2);
        }
    }

    private static int[] counted(int n) {
        int[] numbers = new int[n];
        Arrays.setAll(numbers, p -> p + 1);
        return numbers;
    }

    private static void aLongestRow() {
        for (int lane = 0; lane <= 2; lane++) {
            Ship ship = new Ship().row(1, lane, counted(60)).rowIs(1, lane, counted(60)).due("put 1 60 9", -13, 3).due("put 1 59 -9", 1, 0);
            ship.due("cell 1 59 " + lane, -9, 0).due("cell 1 60 " + lane, LOST, 3).due("put 1 0 8", 1, 0).due("cell 1 0 " + lane, 8, 0);
        }
    }

    private static void aNewRowIsZero() {
        for (int lane = 0; lane <= 2; lane++) new Ship().due("sheet 0 " + lane + " 60", 1).rowIs(0, lane, new int[60]);
    }

    private static void aNewRowOfTheSameLength() {
        new Ship().row(0, 1, counted(60)).due("sheet 0 1 60", 1).rowIs(0, 1, new int[60]);
        new Ship().row(0, 1, 5).due("sheet 0 1 1", 1).rowIs(0, 1, 0);
    }

    private static void aNewRowIsShorter() {
        new Ship().row(0, 1, counted(60)).due("sheet 0 1 2", 1).rowIs(0, 1, 0, 0).due("sheet 0 1 60", 1).rowIs(0, 1, new int[60]);
        new Ship().row(0, 1, 1, 2, 3).due("sheet 0 1 0", 1).rowIs(0, 1).due("sheet 0 1 3", 1).rowIs(0, 1, 0, 0, 0);
    }

    private static void aNewRowIsLonger() {
        new Ship().row(0, 1, 1, 2).due("sheet 0 1 4", 1).rowIs(0, 1, 0, 0, 0, 0);
    }

    private static void aNewRowOfAnotherLane() {
        Ship ship = new Ship().row(0, 2, 300, 70000).due("sheet 0 0 2", 1).rowIs(0, 0, 0, 0).due("cell 0 0 2", LOST, 2);
        ship.due("put 0 0 300", 1).due("cell 0 0 0", 44, 0).due("sheet 0 1 2", 1).due("put 0 1 70000", 1).rowIs(0, 1, 0, 4464);
    }

    private static void aRefusedSheetKeepsItsRow() {
        Ship ship = new Ship().row(0, 1, 1, 2, 3);
        for (String call : new String[] {"sheet 0 3 1", "sheet 0 -1 1", "sheet 0 1 61"}) ship.due(call, OUTSIDE, 0).rowIs(0, 1, 1, 2, 3);
        ship.due("sheet 0 1 -1", -14, 4).rowIs(0, 1, 1, 2, 3).due("sheet 4 1 1", UNKNOWN, 0).rowIs(0, 1, 1, 2, 3);
    }

    private static void aRefusedSheetKeepsNothing() {
        new Ship().due("sheet 0 0 -1", -14, 4).due("lose 0", 0).due("sheet 0 0 61", OUTSIDE, 0).due("lose 0", 0).nothing(0);
    }

    private static void loseNumbers() {
        Ship ship = new Ship().row(0, 0, 1).row(3, 2, 1);
        for (String k : new String[] {"MIN", "-1", "4", "MAX"}) ship.due("lose " + k, UNKNOWN);
        ship.rowIs(0, 0, 1).rowIs(3, 2, 1).due("lose 0", 1).due("lose 3", 1).nothing(0).nothing(3);
    }

    private static void loseTwice() {
        new Ship().row(1, 0, 1).due("lose 1", 1).due("lose 1", 0).due("lose 1", 0).nothing(1);
    }

    private static void loseAheadOfAny() {
        for (int k = 0; k <= 3; k++) new Ship().due("lose " + k, 0, 0).nothing(k).due("sheet " + k + " 0 1", 1).due("lose " + k, 1, 0);
    }

    private static void loseAnEmptyRow() {
        new Ship().due("sheet 0 2 0", 1).due("lose 0", 1).due("lose 0", 0);
    }

    private static void loseOneOfFour() {
        Ship ship = new Ship().row(0, 0, 1).row(1, 0, 2).row(2, 0, 3).row(3, 0, 4).due("lose 2", 1);
        ship.rowIs(0, 0, 1).rowIs(1, 0, 2).nothing(2).rowIs(3, 0, 4);
    }

    private static void nothingBehindSomething() {
        Ship ship = new Ship().row(0, 2, 5, 6).row(1, 2, 7).due("lose 0", 1);
        ship.due("put 0 0 1", -11, 1).due("cell 0 0 2", LOST, 1).due("cell 0 0 0", LOST, 1).due("copy 0 0 1 0 1", -11, 1);
        ship.due("copy 1 0 0 0 1", -11, 1).due("copy 0 0 0 0 0", -11, 1).due("sea 0 2 0 0", -11, 1).due("sea 0 0 0 0", -11, 1).due("run 0 2 0 1 0", -11, 1);
        ship.due("sheet 0 2 2", 1).rowIs(0, 2, 0, 0);
    }

    private static void putSheets() {
        Ship ship = new Ship().row(0, 0, 0).row(3, 0, 0);
        for (String k : new String[] {"MIN", "-1", "4", "MAX"}) ship.due("put " + k + " 0 1", UNKNOWN, 0).due("put " + k + " -1 1", UNKNOWN, 0);
        ship.due("put 0 0 5", 1, 0).due("put 3 0 6", 1, 0).rowIs(0, 0, 5).rowIs(3, 0, 6);
    }

    private static void putPlaces() {
        Ship ship = new Ship().row(0, 0, 1, 2, 3);
        for (String i : new String[] {"MIN", "-1", "3", "59", "60", "MAX"}) ship.due("put 0 " + i + " 9", -13, 3).rowIs(0, 0, 1, 2, 3);
        ship.due("put 0 0 7", 1, 0).due("put 0 2 8", 1, 0).rowIs(0, 0, 7, 2, 8);
    }

    private static void putIntoNothing() {
        for (String i : new String[] {"MIN", "-1", "0", "60", "MAX"}) new Ship().due("put 0 " + i + " 9", -11, 1).nothing(0);
    }

    private static void putCutsToItsLane() {
        for (int lane = 0; lane <= 2; lane++) {
            Ship ship = new Ship().due("sheet 0 " + lane + " 1", 1);
            for (int[] one : CUT) ship.due("put 0 0 " + one[0], 1, 0).due("cell 0 0 " + lane, lane == 2 ? one[0] : one[lane + 1], 0);
        }
    }

    private static void putAgain() {
        new Ship().row(0, 0, 5).due("put 0 0 5", 1).rowIs(0, 0, 5).due("put 0 0 0", 1).rowIs(0, 0, 0);
    }

    private static void putChangesOneCell() {
        Ship ship = new Ship().row(0, 1, 1, 2, 3).row(1, 1, 1, 2, 3).due("put 0 1 -5", 1);
        ship.rowIs(0, 1, 1, -5, 3).rowIs(1, 1, 1, 2, 3);
    }

    private static void cellSheets() {
        Ship ship = new Ship().row(0, 0, 4).row(3, 0, 5);
        for (String k : new String[] {"MIN", "-1", "4", "MAX"}) ship.due("cell " + k + " 0 0", LOST, 0);
        ship.due("cell 0 0 0", 4, 0).due("cell 3 0 0", 5, 0);
    }

    private static void cellLanes() {
        for (int lane = 0; lane <= 2; lane++) {
            Ship ship = new Ship().row(0, lane, 4);
            for (String as : new String[] {"MIN", "-1", "3", "MAX"}) ship.due("cell 0 0 " + as, LOST, 0);
            for (int as = 0; as <= 2; as++) ship.due("cell 0 0 " + as, as == lane ? 4 : LOST, as == lane ? 0 : 2);
        }
    }

    private static void cellPlaces() {
        Ship ship = new Ship().row(0, 0, 4, 5);
        for (String i : new String[] {"MIN", "-1", "2", "60", "MAX"}) ship.due("cell 0 " + i + " 0", LOST, 3);
        ship.due("cell 0 0 0", 4, 0).due("cell 0 1 0", 5, 0);
    }

    private static void cellOfNothing() {
        for (int lane = 0; lane <= 2; lane++) new Ship().due("cell 0 0 " + lane, LOST, 1).due("cell 0 -1 " + lane, LOST, 1);
        new Ship().due("cell 0 0 3", LOST, 0).due("cell 0 0 -1", LOST, 0);
    }

    private static void cellFaultsInTheirOrder() {
        Ship ship = new Ship().row(0, 0, 4);
        ship.due("cell 4 9 3", LOST, 0).due("cell 0 9 3", LOST, 0).due("cell 0 9 1", LOST, 2).due("cell 0 -1 2", LOST, 2).due("cell 0 9 0", LOST, 3);
        ship.due("cell 1 9 3", LOST, 0).due("cell 1 9 1", LOST, 1);
    }

    private static void cellOfTheEndsOfTheInts() {
        new Ship().row(0, 2, MIN, MAX, -1).due("cell 0 0 2", MIN, 0).due("cell 0 1 2", MAX, 0).due("cell 0 2 2", -1, 0);
    }

    private static void copySheets() {
        Ship ship = new Ship().row(0, 0, 1).row(3, 0, 2);
        for (String k : new String[] {"MIN", "-1", "4", "MAX"}) {
            ship.due("copy " + k + " 0 0 0 1", UNKNOWN, 0).due("copy 0 0 " + k + " 0 1", UNKNOWN, 0).due("copy " + k + " 0 " + k + " 0 1", UNKNOWN, 0);
        }
        ship.rowIs(0, 0, 1).rowIs(3, 0, 2).due("copy 3 0 0 0 1", 1, 0).rowIs(0, 0, 2).rowIs(3, 0, 2);
    }

    private static void copyOfNothing() {
        Ship ship = new Ship().row(0, 0, 1);
        ship.due("copy 1 0 0 0 0", -11, 1).due("copy 0 0 1 0 0", -11, 1).due("copy 1 0 1 0 0", -11, 1).due("copy 1 0 2 0 0", -11, 1);
        ship.due("copy 1 0 0 0 1", -11, 1).rowIs(0, 0, 1).nothing(1);
    }

    private static void copyLanes() {
        Ship ship = new Ship().row(0, 0, 1).row(1, 1, 2).row(2, 2, 3).row(3, 0, 4);
        for (int k = 0; k <= 2; k++) {
            for (int other = 0; other <= 2; other++) {
                ship.due("copy " + k + " 0 " + other + " 0 1", k == other ? 1 : -12, k == other ? 0 : 2);
                ship.due("copy " + k + " 0 " + other + " 0 0", k == other ? 0 : -12, k == other ? 0 : 2);
            }
        }
        ship.rowIs(0, 0, 1).rowIs(1, 1, 2).rowIs(2, 2, 3).due("copy 0 0 3 0 1", 1, 0).rowIs(3, 0, 1);
    }

    private static void copyNumbers() {
        Ship ship = new Ship().row(0, 0, 1, 2, 3).row(1, 0, 4, 5, 6);
        for (String n : new String[] {"MIN", "-1", "4", "60", "MAX"}) ship.due("copy 0 0 1 0 " + n, -13, 3);
        ship.rowIs(1, 0, 4, 5, 6).due("copy 0 0 1 0 0", 0, 0).rowIs(1, 0, 4, 5, 6).due("copy 0 0 1 0 3", 3, 0).rowIs(1, 0, 1, 2, 3);
    }

    private static void copyPlaces() {
        Ship ship = new Ship().row(0, 0, 1, 2, 3).row(1, 0, 4, 5);
        for (String i : new String[] {"MIN", "-1", "3", "4", "MAX"}) ship.due("copy 0 " + i + " 1 0 1", -13, 3);
        for (String j : new String[] {"MIN", "-1", "2", "3", "MAX"}) ship.due("copy 0 0 1 " + j + " 1", -13, 3);
        ship.due("copy 0 2 1 0 2", -13, 3).due("copy 0 1 1 1 2", -13, 3).due("copy 0 0 1 0 3", -13, 3).due("copy 1 0 0 2 2", -13, 3);
        ship.rowIs(0, 0, 1, 2, 3).rowIs(1, 0, 4, 5).due("copy 0 2 1 1 1", 1, 0).rowIs(1, 0, 4, 3).due("copy 0 1 1 0 2", 2, 0).rowIs(1, 0, 2, 3);
    }

    private static void copyFaultsInTheirOrder() {
        Ship ship = new Ship().row(0, 0, 1).row(1, 1, 2);
        ship.due("copy 4 -1 2 -1 -1", UNKNOWN, 0).due("copy 2 -1 4 -1 -1", UNKNOWN, 0).due("copy 2 -1 1 -1 -1", -11, 1).due("copy 0 -1 2 -1 -1", -11, 1);
        ship.due("copy 0 -1 1 -1 -1", -12, 2).due("copy 0 9 1 9 9", -12, 2).due("copy 0 -1 0 -1 -1", -13, 3);
    }

    private static void copyOfNone() {
        Ship ship = new Ship().row(0, 0, 1, 2).row(1, 0, 3).row(2, 0);
        ship.due("copy 0 0 1 0 0", 0, 0).due("copy 0 2 1 1 0", 0, 0).due("copy 0 2 2 0 0", 0, 0).due("copy 2 0 0 2 0", 0, 0);
        ship.due("copy 0 3 1 0 0", -13, 3).due("copy 0 0 1 2 0", -13, 3).due("copy 0 -1 1 0 0", -13, 3).due("copy 0 0 1 -1 0", -13, 3);
        ship.due("copy 0 0 2 1 0", -13, 3).due("copy 2 1 0 0 0", -13, 3).rowIs(0, 0, 1, 2).rowIs(1, 0, 3).rowIs(2, 0);
    }

    private static void copyOfSixty() {
        Ship ship = new Ship().row(0, 2, counted(60)).due("sheet 1 2 60", 1).due("copy 0 0 1 0 61", -13, 3).due("copy 0 0 1 0 60", 60, 0);
        ship.rowIs(1, 2, counted(60)).rowIs(0, 2, counted(60)).due("copy 0 0 0 0 60", 60, 0).rowIs(0, 2, counted(60));
    }

    private static void copyOfOne() {
        new Ship().row(0, 2, counted(60)).due("copy 0 59 0 0 1", 1, 0).due("cell 0 0 2", 60).due("copy 0 1 0 59 1", 1, 0).due("cell 0 59 2", 2);
    }

    private static void copyForwardOnToItself() {
        new Ship().row(0, 0, 1, 2, 3, 4, 5).due("copy 0 0 0 1 4", 4, 0).rowIs(0, 0, 1, 1, 2, 3, 4);
        new Ship().row(0, 0, 1, 2, 3, 4, 5).due("copy 0 0 0 2 3", 3, 0).rowIs(0, 0, 1, 2, 1, 2, 3);
        new Ship().row(0, 0, 1, 2, 3, 4, 5).due("copy 0 0 0 3 2", 2, 0).rowIs(0, 0, 1, 2, 3, 1, 2);
        int[] moved = counted(60);
        for (int p = 59; p > 0; p--) moved[p] = p;
        new Ship().row(0, 2, counted(60)).due("copy 0 0 0 1 59", 59, 0).rowIs(0, 2, moved);
    }

    private static void copyBackwardOnToItself() {
        new Ship().row(0, 0, 1, 2, 3, 4, 5).due("copy 0 1 0 0 4", 4, 0).rowIs(0, 0, 2, 3, 4, 5, 5);
        new Ship().row(0, 0, 1, 2, 3, 4, 5).due("copy 0 2 0 0 3", 3, 0).rowIs(0, 0, 3, 4, 5, 4, 5);
        new Ship().row(0, 0, 1, 2, 3, 4, 5).due("copy 0 3 0 0 2", 2, 0).rowIs(0, 0, 4, 5, 3, 4, 5);
    }

    private static void copyOnToTheSamePlace() {
        new Ship().row(0, 1, 1, 2, 3).due("copy 0 0 0 0 3", 3, 0).rowIs(0, 1, 1, 2, 3).due("copy 0 1 0 1 2", 2, 0).rowIs(0, 1, 1, 2, 3);
    }

    private static void copyToAShorterRow() {
        Ship ship = new Ship().row(0, 1, 1, 2, 3).row(1, 1, 9);
        ship.due("copy 0 0 1 0 2", -13, 3).rowIs(1, 1, 9).due("copy 0 2 1 0 1", 1, 0).rowIs(1, 1, 3).due("copy 1 0 0 0 1", 1, 0).rowIs(0, 1, 3, 2, 3);
    }

    private static void copyLeavesTheRest() {
        Ship ship = new Ship().row(0, 1, 1, 2, 3, 4).row(1, 1, 9, 9, 9, 9).row(2, 1, 9, 9).due("copy 0 1 1 2 2", 2, 0);
        ship.rowIs(1, 1, 9, 9, 2, 3).rowIs(0, 1, 1, 2, 3, 4).rowIs(2, 1, 9, 9);
    }

    private static void copyKeepsTheNumbers() {
        new Ship().row(0, 0, -128, 127).row(1, 0, 0, 0).due("copy 0 0 1 0 2", 2).rowIs(1, 0, -128, 127);
        new Ship().row(0, 1, -32768, 32767).row(1, 1, 0, 0).due("copy 0 0 1 0 2", 2).rowIs(1, 1, -32768, 32767);
        new Ship().row(0, 2, MIN, MAX).row(1, 2, 0, 0).due("copy 0 0 1 0 2", 2).rowIs(1, 2, MIN, MAX);
    }

    private static void aCopyIsNoTie() {
        Ship ship = new Ship().row(0, 0, 1, 2).row(1, 0, 0, 0).due("copy 0 0 1 0 2", 2).due("put 0 0 9", 1).rowIs(1, 0, 1, 2);
        ship.due("put 1 1 8", 1).rowIs(0, 0, 9, 2).due("lose 0", 1).rowIs(1, 0, 1, 8);
    }

    private static void aRefusedCopyChangesNothing() {
        Ship ship = new Ship().row(0, 0, 1, 2, 3).row(1, 0, 4, 5, 6);
        for (String call : new String[] {"copy 0 0 1 1 3", "copy 0 1 1 0 3", "copy 0 0 1 0 4", "copy 0 0 1 -1 2", "copy 0 -1 1 0 2"}) {
            ship.due(call, -13, 3).rowIs(0, 0, 1, 2, 3).rowIs(1, 0, 4, 5, 6);
        }
    }

    private static void sheetsAreApart() {
        Ship ship = new Ship().row(0, 0, 1).row(1, 1, 2).row(2, 2, 3).due("sheet 3 0 2", 1).due("put 3 1 4", 1);
        ship.rowIs(0, 0, 1).rowIs(1, 1, 2).rowIs(2, 2, 3).rowIs(3, 0, 0, 4);
        Ship other = new Ship();
        for (int k = 0; k <= 3; k++) other.nothing(k);
    }
}
