/** Promise 31: what fault() tells ahead of any call, behind each call that names FAULTS and behind those that name none. */
public final class FaultsTest {
    private static final String TO_SIZE = "sheet 0 0 -1";
    private static final String TO_NULL = "put 3 0 0";
    private static final String TO_CAST = "cell 1 0 0";
    private static final String TO_INDEX = "cell 1 5 1";

    /** Calls that name FAULTS and come to none, in State RICH, each with its answer. */
    private static final String COMES_TO_NONE = """
        sea 0 0 0 27 = 3
        voyage 2 2 0 0 0 = 0
        voyage 1 1 3 1 4 = 4
        begun 2 2 0 2 0 0 = 0
        begun 2 2 3 1 3 0 = 0
        run 2 2 0 6 0 = 4
        run 1 1 4 1 1 = 4
        sheet 0 1 0 = 1
        sheet 3 2 60 = 1
        put 2 5 -1 = 1
        cell 2 5 2 = 2
        cell 0 26 0 = 49
        copy 2 0 2 0 6 = 6
        copy 2 6 2 6 0 = 0
        as 2 0 = 1
        as 2 2 = 1
        as 0 0 = 1
        """;

    /** Calls that name FAULTS and are refused, or answer that a TEXT or a STEP is wrong: they came to none. */
    private static final String REFUSED = """
        sea 4 0 0 1 = -1
        sea 0 3 0 1 = -2
        sea 0 0 0 26 = -126
        sea 0 0 27 0 = -100
        voyage -1 0 0 0 0 = -1
        voyage 1 1 0 0 5 = -2
        voyage 1 1 4 1 0 = -2
        voyage 2 2 0 1 0 = -100
        voyage 2 2 0 1 1 = 0
        begun 4 0 0 1 0 0 = -1
        begun 2 2 0 7 0 0 = -2
        begun 2 2 2 1 0 1 = -9
        run 4 0 0 1 0 = -1
        run 1 1 0 41 0 = -2
        sheet 4 0 1 = -1
        sheet 0 3 1 = -2
        sheet 0 0 61 = -2
        put 4 0 0 = -1
        cell 4 0 0 = LOST
        cell 0 0 3 = LOST
        copy 4 0 0 0 0 = -1
        copy 0 0 4 0 0 = -1
        as 3 0 = -1
        as 0 3 = -2
        """;

    /** Calls that name none, taken or refused, in State RICH. */
    private static final String NAMES_NONE = """
        ofLooker 0 0 = 0
        ofLooker 3 0 = -1
        ofLooker 0 5 = -2
        height 0 = 9
        height 12 = -1
        heap 0 3 = 9
        heap 12 3 = -1
        heap 0 10 = -2
        dim 0 3 = 1
        dim 3 3 = -1
        dim 0 10 = -2
        scrape 0 = 1
        scrape 3 = -1
        scrape 1 = -3
        grow 1 = 3
        grow 3 = -1
        grow 0 = -3
        seen = 255
        step 3 = 0
        step 4 = -2
        step 1 = -3
        way 5 -1 = 0
        way 12 0 = -1
        way 0 10 = -2
        most 1 -1 = 2
        most 6 0 = -2
        flat 0 = 1
        flat 12 = -1
        reading 0 0 0 = 3
        reading 3 0 0 = -1
        reading 0 10 0 = -2
        back 1 = 2
        back 4 = -2
        shorts 0 = 2
        shorts 3 = -1
        kinds 0 = 1
        kinds 3 = -1
        odds 0 0 0 = 1
        odds 0 0 2 = LOST
        lose 0 = 1
        lose 3 = 0
        lose 4 = -1
        tell 0 = 1
        tell 3 = -1
        greet 0 = 0
        greet 3 = -1
        trace = 2831141
        fault = SAME
        many 0 = 4
        many 7 = -2
        """;

    public static void main(String[] args) {
        aheadOfAny();
        aheadOfAnyThatNamesOne();
        eachFaultIsTold();
        eachCallTellsItsFaults();
        rows(COMES_TO_NONE, true);
        rows(REFUSED, true);
        rows(NAMES_NONE, false);
        refusedWithoutASea();
        fullNamesNone();
        itIsTheLatestThatCounts();
        eachObjectHasItsOwn();
        Due.end();
    }

    private static void aheadOfAny() {
        new Ship().due("fault", 0).due("fault", 0);
    }

    private static void aheadOfAnyThatNamesOne() {
        new Ship().due("step 0", HullCharts.STATE, 0).due("lose 0", 0, 0).due("height 0", HullCharts.UNKNOWN, 0)
            .due("odds 0 0 0", HullCharts.LOST, 0).due("back 1", HullCharts.OUTSIDE, 0).due("many 7", HullCharts.OUTSIDE, 0);
    }

    private static void eachFaultIsTold() {
        Ship ship = State.RICH.bring(new Ship());
        ship.due(TO_NULL, -11, 1).due(TO_CAST, HullCharts.LOST, 2).due(TO_INDEX, HullCharts.LOST, 3).due(TO_SIZE, -14, 4);
    }

    private static void eachCallTellsItsFaults() {
        Ship ship = State.RICH.bring(new Ship());
        ship.due("sea 3 0 0 0", -11, 1).due("sea 0 1 0 0", -12, 2).due("sea 0 0 28 0", -13, 3).due("sea 0 0 0 -1", -14, 4);
        ship.due("voyage 3 0 0 0 0", -11, 1).due("voyage 1 0 0 0 0", -12, 2).due("voyage 1 1 6 0 0", -13, 3);
        ship.due("begun 3 0 0 1 0 0", -11, 1).due("begun 2 0 0 1 0 0", -12, 2).due("begun 2 2 0 3 0 0", -13, 3);
        ship.due("run 3 0 0 1 0", -11, 1).due("run 1 0 0 1 0", -12, 2).due("run 1 1 0 6 0", -13, 3);
        ship.due("sheet 1 0 -1", -14, 4);
        ship.due("put 3 0 0", -11, 1).due("put 1 5 0", -13, 3);
        ship.due("cell 3 0 0", HullCharts.LOST, 1).due("cell 1 0 2", HullCharts.LOST, 2).due("cell 1 5 1", HullCharts.LOST, 3);
        ship.due("copy 3 0 0 0 0", -11, 1).due("copy 0 0 3 0 0", -11, 1).due("copy 0 0 1 0 0", -12, 2).due("copy 1 6 1 0 0", -13, 3);
        ship.due("as 0 1", -12, 2).due("as 1 2", -12, 2);
    }

    /** Each row behind each FAULT and behind none. */
    private static void rows(String rows, boolean namesOne) {
        for (String row : rows.lines().toList()) {
            String[] parts = row.split(" = ");
            behind(TO_NULL, 1, parts[0], parts[1], namesOne);
            behind(TO_CAST, 2, parts[0], parts[1], namesOne);
            behind(TO_INDEX, 3, parts[0], parts[1], namesOne);
            behind(TO_SIZE, 4, parts[0], parts[1], namesOne);
            behind("as 0 0", 0, parts[0], parts[1], namesOne);
        }
    }

    private static void behind(String earlier, int fault, String call, String answer, boolean namesOne) {
        Ship ship = State.RICH.bring(new Ship());
        ship.ask(earlier);
        long want = answer.equals("SAME") ? fault : answer.equals("LOST") ? HullCharts.LOST : Long.parseLong(answer);
        ship.due(call, want, namesOne ? 0 : fault).due("fault", namesOne ? 0 : fault);
    }

    private static void refusedWithoutASea() {
        Ship ship = State.SHEETS.bring(new Ship());
        for (String call : new String[] {"voyage 0 0 0 0 0", "voyage 3 0 -1 0 0", "begun 0 0 0 1 0 0", "begun 3 0 -1 1 0 0"}) {
            ship.due("put 3 0 0", -11, 1).due(call, HullCharts.STATE, 0);
        }
        ship.due("put 3 0 0", -11, 1).due("as 0 0", HullCharts.UNKNOWN, 0);
        ship.due("put 3 0 0", -11, 1).due("step 0", HullCharts.STATE, 1).due("most 1 0", HullCharts.STATE, 1);
        ship.due("seen", HullCharts.LOST, 1).due("tell 0", HullCharts.UNKNOWN, 1).due("reading 0 0 0", HullCharts.UNKNOWN, 1);
    }

    private static void fullNamesNone() {
        Ship ship = State.FULL.bring(new Ship());
        ship.due("put 3 0 0", -11, 1).due("reading 0 0 0", HullCharts.FULL, 1);
        ship.due("put 1 0 0", 1, 0).due("reading 0 0 0", HullCharts.FULL, 0);
    }

    private static void itIsTheLatestThatCounts() {
        Ship ship = State.RICH.bring(new Ship());
        ship.due(TO_NULL, -11).due(TO_SIZE, -14).due("fault", 4);
        ship.due(TO_SIZE, -14).due(TO_NULL, -11).due("fault", 1);
        ship.due(TO_NULL, -11).due("put 1 0 0", 1).due("many 0", 4).due("fault", 0);
        ship.due(TO_NULL, -11).due("sheet 4 0 0", HullCharts.UNKNOWN).due("step 4", HullCharts.OUTSIDE).due("fault", 0);
    }

    private static void eachObjectHasItsOwn() {
        Ship one = State.RICH.bring(new Ship());
        Ship other = State.RICH.bring(new Ship());
        one.due(TO_NULL, -11);
        other.due("fault", 0);
        other.due(TO_SIZE, -14);
        one.due("fault", 1);
    }
}
