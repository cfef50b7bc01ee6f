import java.util.ArrayList;
import java.util.HashMap;
import java.util.LinkedHashMap;
import java.util.List;
import java.util.Map;
import java.util.Set;
import java.util.TreeSet;

/**
 * Each call changes what its promise tells and nothing else: a row tells the calls ahead in State RICH, the call, and
 * as patterns all that is shown otherwise behind it (the number behind # tells which time it is shown).
 */
public final class ChangesTest {
    private static final String CHANGES = """
        heap 1 3 | height\\[1\\] #0
        heap 5 7 | height\\[5\\] #0, ofLooker\\[0, 4\\] #0
        heap 6 0 | height\\[6\\] #0, ofLooker\\[1, 4\\] #0
        heap 5 2 |
        dim 0 0 | ofLooker\\[0, 1\\] #0, ofLooker\\[0, 4\\] #0, (shorts|kinds)\\[.\\] #.
        dim 0 0; dim 0 1 | ofLooker\\[0, 1\\] #0, ofLooker\\[0, 4\\] #0, (shorts|kinds)\\[.\\] #.
        dim 2 1 |
        scrape 0 | ofLooker\\[0, 2\\] #0
        scrape 0; scrape 2 | ofLooker\\[2, 2\\] #0
        grow 1 | ofLooker\\[1, 2\\] #0
        step 2; grow 1 | ofLooker\\[1, 2\\] #0, seen\\[\\] #0, many\\[5\\] #0
        step 0 | many\\[3\\] #0, many\\[4\\] #0, ofLooker\\[[012], 3\\] #0, ofLooker\\[[012], 4\\] #0
        step 2 | many\\[3\\] #0, many\\[4\\] #0, many\\[5\\] #0, seen\\[\\] #0, ofLooker\\[[012], 3\\] #0, ofLooker\\[[012], 4\\] #0
        reading 0 6 5 | many\\[6\\] #0, (shorts|kinds|back)\\[.\\] #.
        back 1 | many\\[6\\] #0, (shorts|kinds|back)\\[.\\] #.
        back 0 |
        tell 0 | trace\\[\\] #0
        greet 2 | trace\\[\\] #0
        sheet 3 2 2 | fault\\[\\] #0, cell\\[3, ., .\\] #0, fault\\[\\] #1[012]
        sheet 1 1 5 | fault\\[\\] #0, cell\\[1, [1234], 1\\] #0
        lose 1 | cell\\[1, ., .\\] #0, fault\\[\\] #[456]
        lose 3 |
        put 2 5 300 | fault\\[\\] #0, cell\\[2, 5, 2\\] #0
        put 1 0 65536 | fault\\[\\] #0
        copy 1 3 1 0 2 | fault\\[\\] #0, cell\\[1, [01], 1\\] #0
        copy 2 0 2 2 4 | fault\\[\\] #0, cell\\[2, [24], 2\\] #0
        sea 0 0 0 27 | fault\\[\\] #0, many\\[[3456]\\] #0, seen\\[\\] #0, height\\[0\\] #0, ofLooker\\[., [1234]\\] #0, (shorts|kinds|back)\\[.\\] #.
        sea 0 0 0 26 | fault\\[\\] #0
        """;

    /** Calls that ask: behind them all is shown as it was, but fault() of one that names FAULTS. */
    private static final String ASKING = """
        ofLooker 2 4
        height 3
        seen
        voyage 2 2 0 1 0 | fault\\[\\] #0
        voyage 1 1 2 1 2 | fault\\[\\] #0
        way 11 -1
        most 5 -1
        flat 0
        begun 2 2 0 2 1 0 | fault\\[\\] #0
        run 2 2 0 6 1 | fault\\[\\] #0
        shorts 0
        kinds 2
        odds 2 3 1
        cell 2 5 2 | fault\\[\\] #0
        as 2 1 | fault\\[\\] #0
        trace
        fault
        many 3
        """;

    private ChangesTest() {
    }

    public static void main(String[] args) {
        for (String row : CHANGES.lines().toList()) changes(row);
        for (String row : ASKING.lines().toList()) changes(row);
        Due.end();
    }

    private static void changes(String row) {
        String[] parts = row.split("\\|", 2);
        List<String> patterns = new ArrayList<>();
        if (parts.length == 2) {
            for (String pattern : parts[1].split(", (?=[a-z(])")) if (!pattern.isBlank()) patterns.add(pattern.strip());
        }
        String[] calls = parts[0].strip().split("; ");
        Set<String> changed = changed(row, calls);
        for (String one : changed) Due.isTrue(parts[0] + "changes " + one, patterns.stream().anyMatch(one::matches));
        for (String pattern : patterns) Due.isTrue(parts[0] + "leaves " + pattern, changed.stream().anyMatch(one -> one.matches(pattern)));
    }

    /** What is shown otherwise behind the last of the calls than ahead of it. */
    private static Set<String> changed(String row, String[] calls) {
        Ship ahead = behindAFault();
        Ship behind = behindAFault();
        for (int p = 0; p < calls.length; p++) {
            Due.isTrue(row + ": is not refused", behind.ask(calls[p]) != HullCharts.LOST);
            if (p < calls.length - 1) ahead.ask(calls[p]);
        }
        Map<String, String> was = shown(ahead);
        Map<String, String> is = shown(behind);
        Set<String> changed = new TreeSet<>(was.keySet());
        changed.addAll(is.keySet());
        changed.removeIf(key -> was.containsKey(key) && was.get(key).equals(is.get(key)));
        return changed;
    }

    private static Ship behindAFault() {
        return State.RICH.bring(new Ship()).due("put 3 0 0", -11, 1);
    }

    private static Map<String, String> shown(Ship ship) {
        Map<String, String> shown = new LinkedHashMap<>();
        Map<String, Integer> times = new HashMap<>();
        for (String line : ship.show()) {
            int end = line.lastIndexOf(' ');
            String call = line.substring(0, end);
            shown.put(call + " #" + (times.merge(call, 1, Integer::sum) - 1), line.substring(end + 1));
        }
        return shown;
    }
}
