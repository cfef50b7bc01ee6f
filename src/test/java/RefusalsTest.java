import java.util.List;
import java.util.Set;

/**
 * Each call's REFUSALS and FAULTS, alone and several at once, in States that are told by their names. A row tells the
 * call, its answer (of a cell that is LOST: its FAULT, too); fault() behind it and that nothing is changed is asked
 * of each, behind an earlier FAULT and behind none.
 */
public final class RefusalsTest {
    private static final Set<String> NAMING_FAULTS = Set.of("sea", "voyage", "begun", "run", "sheet", "put", "cell", "copy", "as");

    private static final String NEW = """
        sea -1 -1 -1 -1 = -1
        sea MIN 0 0 0 = -1
        sea 4 3 -1 -1 = -1
        sea MAX 0 0 0 = -1
        sea 0 -1 -1 -1 = -2
        sea 3 3 -1 -1 = -2
        sea 0 0 0 0 = -11
        sea 3 2 -1 -1 = -11
        sea 1 1 0 13 = -11
        ofLooker 0 0 = -1
        ofLooker 0 5 = -1
        ofLooker -1 -1 = -1
        height 0 = -1
        height -1 = -1
        heap 0 0 = -1
        heap 0 10 = -1
        dim 0 0 = -1
        dim 0 -1 = -1
        scrape 0 = -1
        grow 0 = -1
        seen = LOST
        step -1 = -2
        step 4 = -2
        step 0 = -3
        step 3 = -3
        voyage -1 -1 -1 -1 -1 = -1
        voyage 4 3 0 41 5 = -1
        voyage 0 -1 0 0 0 = -2
        voyage 0 3 0 0 0 = -2
        voyage 0 0 0 -1 0 = -2
        voyage 0 0 0 41 0 = -2
        voyage 0 0 0 0 -1 = -2
        voyage 0 0 0 0 5 = -2
        voyage 0 0 0 0 0 = -3
        voyage 3 2 -1 40 4 = -3
        way 0 -1 = -1
        way 0 10 = -1
        most 0 -1 = -2
        most 6 -1 = -2
        most 1 -2 = -2
        most 1 5 = -2
        most 1 -1 = -3
        most 5 4 = -3
        flat 0 = -1
        begun -1 -1 -1 0 -1 -1 = -1
        begun 4 3 0 7 4 3 = -1
        begun 0 -1 0 1 0 0 = -2
        begun 0 3 0 1 0 0 = -2
        begun 0 0 0 0 0 0 = -2
        begun 0 0 0 7 0 0 = -2
        begun 0 0 0 1 -1 0 = -2
        begun 0 0 0 1 4 0 = -2
        begun 0 0 0 1 0 -1 = -2
        begun 0 0 0 1 0 3 = -2
        begun 0 0 0 1 0 0 = -3
        begun 3 2 -1 6 3 2 = -3
        run -1 -1 -1 0 -1 = -1
        run 4 3 0 41 2 = -1
        run 0 -1 0 1 0 = -2
        run 0 3 0 1 0 = -2
        run 0 0 0 0 0 = -2
        run 0 0 0 41 0 = -2
        run 0 0 0 1 -1 = -2
        run 0 0 0 1 2 = -2
        run 0 0 0 1 0 = -11
        run 3 2 -1 40 1 = -11
        reading 0 0 0 = -1
        reading 0 10 21 = -1
        back -1 = -2
        back 1 = -2
        shorts 0 = -1
        kinds 0 = -1
        odds 0 0 0 = LOST
        sheet -1 -1 -1 = -1
        sheet 4 3 61 = -1
        sheet 0 -1 -1 = -2
        sheet 0 3 61 = -2
        sheet 0 0 61 = -2
        sheet 0 2 MAX = -2
        sheet 0 0 -1 = -14
        sheet 3 2 MIN = -14
        lose -1 = -1
        lose 4 = -1
        put -1 0 0 = -1
        put 4 -1 0 = -1
        put 0 0 0 = -11
        put 3 -1 0 = -11
        cell -1 -1 -1 = LOST 0
        cell 4 0 3 = LOST 0
        cell 0 0 -1 = LOST 0
        cell 0 -1 3 = LOST 0
        cell 0 0 0 = LOST 1
        cell 3 -1 2 = LOST 1
        copy -1 0 0 0 0 = -1
        copy 0 0 -1 0 0 = -1
        copy 4 -1 0 -1 -1 = -1
        copy 0 -1 4 -1 -1 = -1
        copy 0 0 0 0 0 = -11
        copy 3 -1 1 -1 -1 = -11
        tell 0 = -1
        greet 0 = -1
        as 0 0 = -1
        as 0 3 = -1
        many -1 = -2
        many 7 = -2
        """;

    private static final String SHEETS = """
        sea 0 0 0 3 = -100
        sea 0 0 3 0 = -100
        sea 0 0 4 0 = -13
        sea 1 2 -1 -1 = -12
        sea 3 0 0 0 = -11
        voyage 2 1 9 0 0 = -3
        begun 2 1 9 1 0 0 = -3
        run 2 1 9 1 0 = -12
        run 2 2 0 5 0 = -13
        run 2 2 3 2 0 = -13
        run 2 2 4 1 0 = -13
        run 2 2 -1 1 0 = -13
        run 2 2 MAX 40 0 = -13
        run 2 2 MIN 40 0 = -13
        run 2 2 0 0 0 = -2
        run 2 1 0 41 0 = -2
        run 3 1 -1 1 0 = -11
        sheet 0 2 -1 = -14
        sheet 0 2 61 = -2
        put 0 -1 0 = -13
        put 0 3 0 = -13
        put 1 2 0 = -13
        put 2 4 0 = -13
        put 2 MIN 0 = -13
        put 2 MAX 0 = -13
        put 3 -1 0 = -11
        cell 0 3 0 = LOST 3
        cell 0 -1 0 = LOST 3
        cell 0 3 1 = LOST 2
        cell 0 0 2 = LOST 2
        cell 1 0 0 = LOST 2
        cell 1 -1 2 = LOST 2
        cell 2 0 0 = LOST 2
        cell 2 9 1 = LOST 2
        cell 2 MIN 2 = LOST 3
        cell 2 MAX 2 = LOST 3
        cell 3 0 0 = LOST 1
        cell 2 0 3 = LOST 0
        copy 0 9 3 9 -1 = -11
        copy 3 9 0 9 -1 = -11
        copy 3 0 3 0 0 = -11
        copy 0 9 1 9 -1 = -12
        copy 1 0 0 0 0 = -12
        copy 1 0 2 0 0 = -12
        copy 2 0 2 0 5 = -13
        copy 2 1 2 0 4 = -13
        copy 2 0 2 1 4 = -13
        copy 2 0 2 0 -1 = -13
        copy 2 -1 2 0 1 = -13
        copy 2 0 2 -1 1 = -13
        copy 2 5 2 0 0 = -13
        copy 2 0 2 5 0 = -13
        copy 2 4 2 0 1 = -13
        copy 2 0 2 4 1 = -13
        copy 2 1 2 1 MAX = -13
        copy 2 MAX 2 0 MAX = -13
        copy 2 0 2 MAX MAX = -13
        copy 2 0 2 0 MIN = -13
        copy 2 MIN 2 0 0 = -13
        """;

    private static final String LEAST = """
        sea 0 0 0 0 = -100
        sea 0 0 0 1 = -13
        sea 0 0 1 0 = -13
        sea 0 0 -1 0 = -13
        sea 0 0 0 -1 = -14
        sea 0 0 -1 MIN = -14
        sea 0 1 0 0 = -12
        ofLooker 1 0 = -1
        ofLooker 0 -1 = -2
        ofLooker 0 5 = -2
        height 4 = -1
        heap 4 10 = -1
        heap 3 10 = -2
        heap 3 -1 = -2
        dim 1 10 = -1
        dim 0 10 = -2
        dim 0 -1 = -2
        scrape 1 = -1
        grow 1 = -1
        grow 0 = -3
        step 0 = -3
        step 1 = -3
        voyage 0 0 0 1 0 = -13
        voyage 0 0 1 0 0 = -13
        voyage 0 0 -1 0 0 = -13
        voyage 0 2 9 0 0 = -12
        way 4 -1 = -1
        way 3 -2 = -2
        way 3 10 = -2
        flat 4 = -1
        begun 0 0 0 1 0 0 = -13
        begun 2 2 0 1 0 0 = -13
        begun 2 0 0 1 0 0 = -12
        run 1 1 0 1 0 = -13
        reading 1 0 0 = -1
        reading 0 -1 0 = -2
        reading 0 10 0 = -2
        reading 0 0 -1 = -2
        reading 0 0 21 = -2
        back 1 = -2
        back -1 = -2
        shorts 1 = -1
        kinds 1 = -1
        odds 1 0 0 = LOST
        odds 0 -1 0 = LOST
        odds 0 21 0 = LOST
        odds 0 0 -1 = LOST
        odds 0 0 2 = LOST
        put 0 0 5 = -13
        cell 0 0 0 = LOST 3
        cell 1 0 1 = LOST 3
        cell 1 0 0 = LOST 2
        copy 0 0 3 0 1 = -13
        copy 0 1 3 0 0 = -13
        copy 0 0 3 1 0 = -13
        copy 0 0 1 0 0 = -12
        tell 1 = -1
        greet 1 = -1
        as 1 0 = -1
        as 0 2 = -12
        as 0 3 = -2
        as 0 -1 = -2
        many 7 = -2
        """;

    private static final String RICH = """
        sea 4 3 -1 -1 = -1
        sea 3 3 -1 -1 = -2
        sea 0 3 -1 -1 = -2
        sea 3 1 -1 -1 = -11
        sea 0 1 -1 -1 = -12
        sea 0 2 0 27 = -12
        sea 1 0 0 0 = -12
        sea 0 0 -1 -1 = -14
        sea 0 0 28 -1 = -14
        sea 0 0 MIN MIN = -14
        sea 0 0 28 0 = -13
        sea 0 0 -1 0 = -13
        sea 0 0 0 28 = -13
        sea 0 0 1 27 = -13
        sea 0 0 27 1 = -13
        sea 0 0 MIN 27 = -13
        sea 0 0 1 MAX = -13
        sea 0 0 MAX MAX = -13
        sea 0 0 0 0 = -100
        sea 0 0 27 0 = -100
        sea 0 0 1 26 = -100
        sea 0 0 0 1 = -101
        sea 0 0 0 26 = -126
        sea 1 1 0 5 = -100
        ofLooker 3 5 = -1
        ofLooker 3 0 = -1
        ofLooker -1 0 = -1
        ofLooker MIN 0 = -1
        ofLooker MAX 0 = -1
        ofLooker 2 5 = -2
        ofLooker 1 -1 = -2
        ofLooker 0 MAX = -2
        ofLooker 0 MIN = -2
        height 12 = -1
        height -1 = -1
        height MIN = -1
        height MAX = -1
        heap 12 10 = -1
        heap -1 5 = -1
        heap 11 10 = -2
        heap 0 -1 = -2
        heap 0 MAX = -2
        heap 0 MIN = -2
        dim 3 10 = -1
        dim -1 5 = -1
        dim 2 10 = -2
        dim 0 -1 = -2
        dim 0 MAX = -2
        dim 0 MIN = -2
        scrape 3 = -1
        scrape -1 = -1
        scrape 32 = -1
        scrape MIN = -1
        scrape 1 = -3
        grow 3 = -1
        grow -1 = -1
        grow 32 = -1
        grow MAX = -1
        grow 0 = -3
        grow 2 = -3
        step -1 = -2
        step 4 = -2
        step MIN = -2
        step MAX = -2
        step 1 = -3
        voyage 4 3 0 41 5 = -1
        voyage -1 0 0 0 0 = -1
        voyage 3 3 -1 0 0 = -2
        voyage 3 1 -1 41 0 = -2
        voyage 3 1 -1 0 5 = -2
        voyage 2 1 9 MIN 0 = -2
        voyage 2 1 9 0 MAX = -2
        voyage 2 1 9 0 0 = -12
        voyage 1 2 0 5 0 = -12
        voyage 0 1 0 1 1 = -12
        voyage 3 1 -1 0 0 = -11
        voyage 1 1 0 6 0 = -13
        voyage 1 1 6 0 0 = -13
        voyage 1 1 -1 0 1 = -13
        voyage 1 1 5 1 0 = -13
        voyage 1 1 MAX 40 0 = -13
        voyage 1 1 MIN 40 0 = -13
        voyage 1 1 0 5 0 = -2
        voyage 1 1 4 1 1 = -2
        voyage 1 1 1 4 1 = -2
        voyage 0 0 0 1 0 = -2
        way 12 -2 = -1
        way -1 10 = -1
        way MAX 0 = -1
        way 11 -2 = -2
        way 0 10 = -2
        way 0 MAX = -2
        way 0 MIN = -2
        most 0 0 = -2
        most 6 0 = -2
        most MIN 0 = -2
        most MAX 0 = -2
        most 5 -2 = -2
        most 5 5 = -2
        flat 12 = -1
        flat -1 = -1
        begun 4 3 -1 7 4 3 = -1
        begun 3 3 -1 1 0 0 = -2
        begun 3 2 -1 7 0 0 = -2
        begun 3 2 -1 1 4 0 = -2
        begun 3 2 -1 1 0 3 = -2
        begun 2 1 9 0 0 0 = -2
        begun 2 1 9 1 -1 0 = -2
        begun 2 1 9 1 0 -1 = -2
        begun 2 1 9 1 0 0 = -12
        begun 1 0 0 1 0 0 = -12
        begun 3 2 -1 1 0 0 = -11
        begun 2 2 0 3 0 0 = -13
        begun 2 2 1 2 0 0 = -13
        begun 2 2 4 1 0 0 = -13
        begun 2 2 -1 1 0 0 = -13
        begun 2 2 MAX 6 0 0 = -13
        begun 2 2 MIN 6 0 0 = -13
        begun 1 1 0 2 0 0 = -13
        run 4 3 -1 0 2 = -1
        run 3 3 -1 1 0 = -2
        run 3 2 -1 0 0 = -2
        run 3 2 -1 1 2 = -2
        run 2 1 9 41 0 = -2
        run 2 1 9 1 -1 = -2
        run 2 1 9 1 0 = -12
        run 3 2 -1 1 0 = -11
        run 2 2 0 7 0 = -13
        run 2 2 6 1 0 = -13
        run 2 2 -1 1 1 = -13
        reading 3 10 21 = -1
        reading -1 0 0 = -1
        reading 0 10 0 = -2
        reading 0 -1 0 = -2
        reading 2 0 21 = -2
        reading 2 0 -1 = -2
        reading 0 MAX MIN = -2
        back 4 = -2
        back -1 = -2
        back MAX = -2
        back MIN = -2
        shorts 3 = -1
        shorts -1 = -1
        kinds 3 = -1
        kinds -1 = -1
        odds 3 21 2 = LOST
        odds -1 0 0 = LOST
        odds 2 21 0 = LOST
        odds 2 -1 1 = LOST
        odds 2 0 2 = LOST
        odds 2 0 -1 = LOST
        sheet 0 -1 -1 = -2
        sheet 0 3 5 = -2
        sheet 1 0 61 = -2
        sheet 1 0 -1 = -14
        sheet 3 2 -1 = -14
        put 4 0 0 = -1
        put 3 0 1 = -11
        put 0 27 1 = -13
        put 1 5 1 = -13
        put 2 6 1 = -13
        put 2 -1 1 = -13
        cell 0 27 0 = LOST 3
        cell 1 5 1 = LOST 3
        cell 2 6 2 = LOST 3
        cell 2 6 0 = LOST 2
        cell 3 6 0 = LOST 1
        cell 2 0 -1 = LOST 0
        copy 0 0 4 0 27 = -1
        copy 3 0 0 0 1 = -11
        copy 0 0 3 0 1 = -11
        copy 1 0 2 0 5 = -12
        copy 2 0 2 1 6 = -13
        copy 2 1 2 0 6 = -13
        copy 2 0 2 0 7 = -13
        tell 3 = -1
        tell -1 = -1
        greet 3 = -1
        greet -1 = -1
        as 3 3 = -1
        as -1 0 = -1
        as 0 3 = -2
        as 1 -1 = -2
        as 0 MAX = -2
        as 0 MIN = -2
        as 0 1 = -12
        as 0 2 = -12
        as 1 2 = -12
        many -1 = -2
        many 7 = -2
        many MIN = -2
        many MAX = -2
        """;

    private static final String GREATEST = """
        sea 1 1 0 61 = -13
        sea 1 1 60 1 = -13
        sea 1 1 61 0 = -13
        sea 1 1 60 0 = -100
        sea 1 1 0 60 = -100
        sea 0 0 0 53 = -153
        sea 0 0 1 53 = -100
        ofLooker 4 0 = -1
        height 36 = -1
        heap 36 0 = -1
        scrape 4 = -1
        step 1 = -3
        step 2 = -3
        voyage 1 1 21 40 0 = -13
        voyage 1 1 60 0 5 = -2
        voyage 1 1 61 0 0 = -13
        voyage 1 1 20 40 0 = -2
        voyage 2 2 0 41 0 = -2
        voyage 2 2 0 40 0 = -101
        way 36 0 = -1
        flat 36 = -1
        begun 1 1 37 6 0 0 = -13
        begun 1 1 36 7 0 0 = -2
        run 1 1 21 40 0 = -13
        run 1 1 0 41 0 = -2
        reading 4 0 0 = -1
        shorts 4 = -1
        kinds 4 = -1
        odds 4 0 0 = LOST
        put 1 60 1 = -13
        put 3 60 1 = -13
        cell 1 60 1 = LOST 3
        copy 1 0 1 0 61 = -13
        copy 1 1 1 0 60 = -13
        copy 1 0 1 1 60 = -13
        copy 1 61 1 0 0 = -13
        copy 0 0 3 7 54 = -13
        copy 3 0 0 0 55 = -13
        tell 4 = -1
        greet 4 = -1
        as 4 0 = -1
        as 3 1 = -12
        """;

    private static final String FULL = """
        reading 0 0 0 = -4
        reading 1 9 20 = -4
        reading 2 0 0 = -1
        reading -1 10 21 = -1
        reading 0 10 0 = -2
        reading 0 -1 0 = -2
        reading 0 0 21 = -2
        reading 0 0 -1 = -2
        back 9 = -2
        back -1 = -2
        step 1 = -3
        step 2 = -3
        step 3 = -3
        voyage 2 2 0 1 0 = -100
        """;

    private static final String ALL_GONE = """
        scrape 0 = -3
        scrape 1 = -3
        scrape 2 = -1
        grow 2 = -1
        step 0 = -3
        step 4 = -2
        ofLooker 0 5 = -2
        voyage 2 2 1 1 4 = -100
        begun 2 2 3 1 0 0 = -13
        begun 2 2 0 3 0 0 = -13
        """;

    public static void main(String[] args) {
        refused(State.NEW, NEW);
        refused(State.SHEETS, SHEETS);
        refused(State.LEAST, LEAST);
        refused(State.RICH, RICH);
        refused(State.GREATEST, GREATEST);
        refused(State.FULL, FULL);
        refused(State.ALL_GONE, ALL_GONE);
        Due.end();
    }

    private static void refused(State state, String rows) {
        List<String> unchanged = behindFault(state.bring(new Ship()).show());
        for (String row : rows.lines().toList()) {
            String[] parts = row.split(" = ");
            behind("sheet 0 0 -1", 4, state, parts[0], parts[1], unchanged);
            behind("sheet 4 0 0", 0, state, parts[0], parts[1], unchanged);
        }
    }

    private static void behind(String earlier, int fault, State state, String call, String answer, List<String> unchanged) {
        Ship ship = state.bring(new Ship());
        ship.ask(earlier);
        String told = state + ": " + call + " behind fault " + fault;
        String[] want = answer.split(" ");
        long due = want[0].equals("LOST") ? HullCharts.LOST : Long.parseLong(want[0]);
        Due.due(told, ship.ask(call), due);
        Due.due(told + ", fault", ship.ask("fault"), faultBehind(call, want, due, fault));
        Ship.alike(told, behindFault(ship.show()), unchanged);
    }

    private static long faultBehind(String call, String[] want, long due, int earlier) {
        if (!NAMING_FAULTS.contains(call.split(" ")[0])) return earlier;
        if (want.length > 1) return Integer.parseInt(want[1]);
        return due <= -11 && due >= -14 ? -10 - due : 0;
    }

    /** What is shown but fault, that a refused call may change. */
    private static List<String> behindFault(List<String> shown) {
        return shown.subList(1, shown.size());
    }
}
