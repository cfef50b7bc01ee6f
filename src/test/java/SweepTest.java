import java.util.Arrays;
import java.util.List;
import java.util.Set;
import java.util.TreeSet;

/**
 * Every call in every State with numbers on both sides of each boundary, all at once: the program answers, tells
 * faults and shows its state as the model does.
 */
public final class SweepTest {
    private static final int MIN = Integer.MIN_VALUE;
    private static final int MAX = Integer.MAX_VALUE;
    private static final int[] SHEETS = {MIN, -1, 0, 1, 2, 3, 4, MAX};
    private static final int[] LANES = {MIN, -1, 0, 1, 2, 3, MAX};
    private static final int[] LOOKERS = {MIN, -1, 0, 1, 2, 3, 4, 5, 32, MAX};
    private static final int[] CELLS = {MIN, -1, 0, 1, 2, 3, 4, 5, 6, 9, 10, 11, 12, 34, 35, 36, 64, MAX};
    private static final int[] DIGITS = {MIN, -1, 0, 1, 8, 9, 10, MAX};
    private static final int[] TOLD = {MIN, -1, 0, 1, 2, 9, 10, 19, 20, 21, MAX};
    private static final int[] STEPS = {MIN, -1, 0, 1, 2, 3, 4, MAX};
    private static final Set<String> CHANGING = Set.of("sea", "heap", "dim", "scrape", "grow", "step", "reading", "back", "sheet",
        "lose", "put", "copy", "tell", "greet");

    private final State state;
    private final int shown;
    private Ship program;
    private Ship model;

    private SweepTest(State state) {
        this.state = state;
        Ship ship = state.bring(new Ship());
        int ahead = ship.asked();
        ship.show();
        shown = ship.asked() - ahead;
    }

    public static void main(String[] args) {
        for (State state : State.values()) new SweepTest(state).all();
        Due.end();
    }

    private void all() {
        calls("ofLooker", LOOKERS, numbers(-1, 5));
        calls("height", CELLS);
        calls("heap", CELLS, DIGITS);
        calls("dim", LOOKERS, DIGITS);
        calls("scrape", LOOKERS);
        calls("grow", LOOKERS);
        calls("seen");
        calls("step", STEPS);
        calls("way", CELLS, numbers(-2, 10));
        calls("most", numbers(-1, 6), numbers(-2, 5));
        calls("flat", CELLS);
        calls("reading", LOOKERS, DIGITS, TOLD);
        calls("back", MIN, -1, 0, 1, 2, 3, 4, 7, 8, 9, MAX);
        calls("shorts", LOOKERS);
        calls("kinds", LOOKERS);
        calls("odds", LOOKERS, TOLD, numbers(-1, 2));
        calls("sheet", SHEETS, LANES, new int[] {MIN, -1, 0, 1, 59, 60, 61, MAX});
        calls("lose", SHEETS);
        calls("tell", LOOKERS);
        calls("greet", LOOKERS);
        calls("as", LOOKERS, numbers(-1, 3));
        calls("trace");
        calls("fault");
        calls("many", MIN, -1, 0, 1, 2, 3, 4, 5, 6, 7, MAX);
        int[] places = places();
        calls("put", SHEETS, places, new int[] {MIN, -32769, -129, -1, 128, 32768, MAX});
        calls("cell", SHEETS, places, LANES);
        for (int k : SHEETS) ofSheet(k, state.length(k));
        copies();
    }

    private void ofSheet(int k, int length) {
        int[] sheet = {k};
        int[] from = {MIN, -1, 0, 1, length - 1, length, length + 1, MAX};
        int[] many = {MIN, -1, 0, 1, 2, length - 1, length, length + 1, 40, 41, MAX};
        calls("sea", sheet, LANES, from, many);
        calls("voyage", sheet, numbers(-1, 3), from, many, numbers(-1, 5));
        calls("begun", sheet, numbers(-1, 3), from, new int[] {-1, 0, 1, 2, 6, 7, MAX}, numbers(-1, 4), numbers(-1, 3));
        calls("run", sheet, numbers(-1, 3), from, many, numbers(-1, 2));
    }

    private void copies() {
        for (int k = -1; k <= 4; k++) {
            for (int other = -1; other <= 4; other++) {
                int from = state.length(k);
                int to = state.length(other);
                calls("copy", new int[] {k}, new int[] {-1, 0, 1, from, from + 1, MAX}, new int[] {other},
                    new int[] {-1, 0, 1, to, to + 1, MIN}, new int[] {MIN, -1, 0, 1, from - 1, to, to + 1, MAX});
            }
        }
    }

    private int[] places() {
        Set<Integer> all = new TreeSet<>(List.of(MIN, -1, 0, 1, MAX));
        for (int k = 0; k <= 3; k++) all.addAll(List.of(state.length(k) - 1, state.length(k), state.length(k) + 1));
        return all.stream().mapToInt(Integer::intValue).toArray();
    }

    private static int[] numbers(int least, int most) {
        int[] all = new int[most - least + 1];
        for (int p = 0; p < all.length; p++) all[p] = least + p;
        return all;
    }

    private void calls(String name, int... ofOne) {
        calls(name, new int[][] {ofOne});
    }

    private void calls(String name) {
        calls(name, new int[0][]);
    }

    /** The call with each number of each argument's. */
    private void calls(String name, int[]... ofEach) {
        renew();
        int[] arguments = new int[ofEach.length];
        go(name, ofEach, arguments, 0);
        compareShown(name);
    }

    private void go(String name, int[][] ofEach, int[] arguments, int place) {
        if (place == arguments.length) {
            compare(name, arguments);
            return;
        }
        for (int number : ofEach[place]) {
            arguments[place] = number;
            go(name, ofEach, arguments, place + 1);
        }
    }

    private void compare(String name, int[] arguments) {
        String told = state + ": " + name + Arrays.toString(arguments);
        long want = model.ask(name, arguments);
        Due.due(told, program.ask(name, arguments), want);
        Due.due(told + ", fault", program.ask("fault"), model.ask("fault"));
        if (CHANGING.contains(name) && want >= 0 || program.asked() + shown + 2 > Ship.MOST_CALLS) {
            compareShown(told);
            renew();
        }
    }

    private void compareShown(String told) {
        Ship.alike("behind " + told, program.show(), model.show());
    }

    private void renew() {
        program = state.bring(new Ship());
        model = state.bring(new Ship(new Model()));
        program.ask("sheet", 3, 0, -1);
        model.ask("sheet", 3, 0, -1);
    }
}
