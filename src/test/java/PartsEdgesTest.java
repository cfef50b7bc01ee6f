/** Promises 27 to 32 at their edges: telling, greeting, kinds, TRACE that wraps, how many; the 512th call. */
public final class PartsEdgesTest {
    private static final int OUTSIDE = HullCharts.OUTSIDE;
    private static final int UNKNOWN = HullCharts.UNKNOWN;
    private static final String THREE = "f32" + "123456" + ";p1;d2;g3/00";

    private PartsEdgesTest() {
    }

    public static void main(String[] args) {
        tellLookers();
        tellAtTheEndsOfShort();
        tellLeavesEachBody();
        tellFollowsDim();
        tellIsNotOfTheHeight();
        tellThoughGone();
        tellWithoutASea();
        greetLookers();
        greetOfEachKind();
        greetTellsTheNumberOfEach();
        greetThoughGone();
        greetWithoutASea();
        asLookers();
        asKinds();
        asEachPair();
        asRefusalsAheadOfCast();
        asLeavesNoTrace();
        asThoughGone();
        traceIsZeroAtFirst();
        traceOfSeveral();
        traceWraps();
        traceWrapsBelowZero();
        refusedTellingLeavesNothing();
        traceIsLeftByOtherCalls();
        manyNumbers();
        manyWithoutASea();
        manyIsOutsideWithoutASea();
        manyOfTheLeastSea();
        manyOfTheGreatestSea();
        manyLookersThoughGone();
        manyPlaceThoughGone();
        manyFollowsSteps();
        manyFollowsReadings();
        theLastCallAnObjectIsGoodFor();
        Due.end();
    }

    private static void tellLookers() {
        Ship ship = Ship.over(THREE);
        for (String k : new String[] {"MIN", "-1", "3", "4", "MAX"}) ship.due("tell " + k, UNKNOWN).due("trace", 0);
        ship.due("tell 0", 1).due("tell 2", 106);
    }

    private static void tellAtTheEndsOfShort() {
        Ship.over("f32" + "000000" + ";p0;d0;g0/00").due("tell 0", 0).due("tell 1", 100).due("tell 2", 100);
        Ship.over("f32" + "000000" + ";p9;d9;g9/00").due("tell 0", 9).due("tell 1", 109).due("tell 2", 118);
    }

    private static void tellLeavesEachBody() {
        Ship.over(THREE).due("tell 0", 1).due("trace", 1);
        Ship.over(THREE).due("tell 1", 102).due("trace", 2 * 31 + 1);
        Ship.over(THREE).due("tell 2", 106).due("trace", ((3 * 31 + 2) * 31 + 1) * 31 + 1);
    }

    private static void tellFollowsDim() {
        Ship ship = Ship.over(THREE).due("dim 0 9", 1).due("tell 0", 9).due("dim 1 0", 2).due("tell 1", 100).due("dim 2 9", 3).due("tell 2", 118);
        ship.due("dim 2 10", OUTSIDE).due("tell 2", 118);
    }

    private static void tellIsNotOfTheHeight() {
        Ship.over(THREE).due("heap 0 9", 1).due("tell 0", 1).due("step 2", 3).due("tell 0", 1).due("tell 2", 106);
    }

    private static void tellThoughGone() {
        Ship ship = Ship.over(THREE).due("scrape 0", 2).due("scrape 1", 1).due("scrape 2", 0);
        ship.due("tell 0", 1).due("trace", 1).due("tell 1", 102).due("tell 2", 106).due("many 2", 3);
    }

    private static void tellWithoutASea() {
        new Ship().due("tell 0", UNKNOWN).due("tell -1", UNKNOWN).due("trace", 0);
    }

    private static void greetLookers() {
        Ship ship = Ship.over(THREE);
        for (String k : new String[] {"MIN", "-1", "3", "4", "MAX"}) ship.due("greet " + k, UNKNOWN).due("trace", 0);
        ship.due("greet 0", 0).due("greet 2", 90);
    }

    private static void greetOfEachKind() {
        Ship.over(THREE).due("greet 0", 0).due("trace", 4);
        Ship.over(THREE).due("greet 1", 1).due("trace", 4);
        Ship.over(THREE).due("greet 2", 90).due("trace", 5);
    }

    private static void greetTellsTheNumberOfEach() {
        Ship ship = Ship.over("f42" + "00000000" + ";g0;p0;d0;p0/00");
        ship.due("greet 0", 90).due("greet 1", 1).due("greet 2", 2).due("greet 3", 3).due("trace", ((5 * 31 + 4) * 31 + 4) * 31 + 4);
        Ship.over("f42" + "00000000" + ";d0;p0;p0;g0/00").due("greet 0", 0).due("greet 3", 90).due("trace", 4 * 31 + 5);
    }

    private static void greetThoughGone() {
        Ship.over(THREE).due("scrape 1", 2).due("scrape 2", 1).due("greet 1", 1).due("greet 2", 90).due("trace", 4 * 31 + 5);
    }

    private static void greetWithoutASea() {
        new Ship().due("greet 0", UNKNOWN).due("greet -1", UNKNOWN).due("trace", 0);
    }

    private static void asLookers() {
        Ship ship = Ship.over(THREE);
        for (String k : new String[] {"MIN", "-1", "3", "4", "MAX"}) ship.due("as " + k + " 0", UNKNOWN, 0);
        ship.due("as 0 0", 1, 0).due("as 2 0", 1, 0);
        new Ship().due("as 0 0", UNKNOWN, 0);
    }

    private static void asKinds() {
        Ship ship = Ship.over(THREE);
        for (String kind : new String[] {"MIN", "-1", "3", "MAX"}) {
            for (int k = 0; k <= 2; k++) ship.due("as " + k + " " + kind, OUTSIDE, 0);
        }
        ship.due("as 2 0", 1, 0).due("as 2 2", 1, 0);
    }

    private static void asEachPair() {
        Ship ship = Ship.over(THREE);
        for (int k = 0; k <= 2; k++) {
            for (int kind = 0; kind <= 2; kind++) ship.due("as " + k + " " + kind, kind <= k ? 1 : -12, kind <= k ? 0 : 2);
        }
    }

    private static void asRefusalsAheadOfCast() {
        Ship.over(THREE).due("as 3 3", UNKNOWN, 0).due("as -1 -1", UNKNOWN, 0).due("as 0 3", OUTSIDE, 0).due("as 0 2", -12, 2).due("as 0 -1", OUTSIDE, 0);
    }

    private static void asLeavesNoTrace() {
        Ship.over(THREE).due("as 2 2", 1).due("as 0 2", -12).due("trace", 0).due("ofLooker 2 0", 2).due("ofLooker 0 0", 0);
    }

    private static void asThoughGone() {
        Ship.over(THREE).due("scrape 1", 2).due("as 1 1", 1, 0).due("as 1 0", 1, 0).due("as 1 2", -12, 2);
    }

    private static void traceIsZeroAtFirst() {
        new Ship().due("trace", 0).due("trace", 0);
        Ship.over(THREE).due("trace", 0);
    }

    private static void traceOfSeveral() {
        Ship.over(THREE).due("greet 0", 0).due("tell 1", 102).due("greet 2", 90).due("trace", ((4 * 31 + 2) * 31 + 1) * 31 + 5);
    }

    /** 31 to the seventh goes beyond an int. */
    private static void traceWraps() {
        Ship ship = Ship.over(THREE);
        int trace = 0;
        for (int turn = 0; turn < 200; turn++) {
            trace = 31 * trace + 5;
            Due.due("greet", ship.ask("greet", 2), 90);
            Due.due("trace behind " + (turn + 1), ship.ask("trace"), trace);
        }
    }

    private static void traceWrapsBelowZero() {
        Ship ship = Ship.over(THREE);
        long[] want = {1, 32, 993, 30784, 954305, 29583456, 917087137, 28429701248L - 7L * (1L << 32)};
        for (long one : want) ship.due("tell 0", 1).due("trace", one);
        Ship fives = Ship.over(THREE);
        for (int turn = 0; turn < 7; turn++) fives.due("greet 2", 90);
        fives.due("trace", 4585435685L - (1L << 32)).due("greet 2", 90).due("trace", (int) (31 * (4585435685L - (1L << 32)) + 5));
        Ship threes = Ship.over(THREE).due("tell 2", 106).due("tell 2", 106);
        threes.due("trace", (int) (91327L * 31 * 31 * 31 * 31 + 91327));
    }

    private static void refusedTellingLeavesNothing() {
        Ship.over(THREE).due("tell 1", 102).due("tell 3", UNKNOWN).due("greet 3", UNKNOWN).due("tell -1", UNKNOWN).due("greet -1", UNKNOWN).due("trace", 63);
    }

    private static void traceIsLeftByOtherCalls() {
        Ship ship = Ship.over(THREE).due("tell 1", 102).due("step 2", 3).due("scrape 0", 2).due("reading 0 1 0", 0).due("ofLooker 1 4", 4);
        ship.due("sheet 0 0 5", 1).due("lose 0", 1).due("as 1 1", 1).due("odds 0 0 0", 1).due("trace", 63);
    }

    private static void manyNumbers() {
        Ship ship = Ship.over(THREE).due("tell 0", 1).due("step 2", 3).due("reading 0 1 0", 0).due("reading 0 1 0", 1);
        for (String what : new String[] {"MIN", "-1", "7", "MAX"}) ship.due("many " + what, OUTSIDE);
        ship.due("many 0", 3).due("many 1", 2).due("many 2", 3).due("many 3", 3).due("many 4", 1).due("many 5", 6).due("many 6", 2);
    }

    private static void manyWithoutASea() {
        Ship ship = new Ship().row(0, 0, 1, 2, 3).due("many 0", 0);
        for (int what = 0; what <= 6; what++) ship.due("many " + what, 0);
    }

    private static void manyIsOutsideWithoutASea() {
        for (String what : new String[] {"MIN", "-1", "7", "MAX"}) new Ship().due("many " + what, OUTSIDE);
    }

    private static void manyOfTheLeastSea() {
        int[] want = {2, 2, 1, 0, 0, 1, 0};
        for (int what = 0; what <= 6; what++) Ship.over("f220000;p0/00").due("many " + what, want[what]);
    }

    private static void manyOfTheGreatestSea() {
        int[] want = {6, 6, 4, 32, 0, 4, 0};
        for (int what = 0; what <= 6; what++) Ship.over("f66" + "0".repeat(36) + ";p0;p0;p0;p0/25").due("many " + what, want[what]);
    }

    private static void manyLookersThoughGone() {
        Ship.over(THREE).due("scrape 0", 2).due("many 2", 3).due("scrape 1", 1).due("scrape 2", 0).due("many 2", 3).due("many 5", 3);
    }

    private static void manyPlaceThoughGone() {
        Ship.over("f33" + "000000000" + ";p0;p0/11").due("scrape 0", 1).due("many 3", 4).due("step 3", 0).due("many 3", 3).due("step 2", 1).due("many 3", 6);
    }

    private static void manyFollowsSteps() {
        Ship ship = Ship.over("f220000;p0/00").due("step 1", 1).due("many 4", 1).due("many 3", 1).due("many 5", 2);
        ship.due("step 1", HullCharts.STATE).due("many 4", 1).due("step 3", 0).due("many 4", 2).due("many 3", 0).due("many 5", 2);
    }

    private static void manyFollowsReadings() {
        Ship ship = Ship.over(THREE);
        for (int r = 0; r < 8; r++) ship.due("reading 0 0 0", r).due("many 6", r + 1);
        ship.due("reading 0 0 0", HullCharts.FULL).due("many 6", 8).due("back 3", 5).due("many 6", 5).due("back 6", OUTSIDE).due("many 6", 5);
    }

    private static void theLastCallAnObjectIsGoodFor() {
        Ship ship = Ship.over("f220000;p0/00").row(1, 2, 1, 2).row(2, 0, 7);
        int steps = 0;
        while (ship.asked() < Ship.MOST_CALLS - 12) Due.due("step", ship.ask("step", steps++ % 2 == 0 ? 1 : 3), steps == 1 ? 1 : 0);
        ship.due("many 4", steps).due("voyage 1 2 1 1 4", 2 + steps % 2).due("most 1 0", 2).due("reading 0 5 5", 0).due("greet 0", 0).due("trace", 4);
        ship.due("copy 1 0 1 1 1", 1).due("cell 1 1 2", 1).due("put 2 1 1", -13).due("fault", 3).due("odds 0 0 1", 1).due("many 4", steps);
        Due.due("calls", ship.asked(), Ship.MOST_CALLS);
    }
}
