import java.lang.reflect.InvocationTargetException;
import java.lang.reflect.Method;
import java.util.ArrayList;
import java.util.Arrays;
import java.util.HashMap;
import java.util.List;
import java.util.Map;

/**
 * One object, of the program or of the model, and how many calls it was asked, as it is good for 512 of them alone.
 * Calls are told as texts such as "put 0 1 -5", MIN and MAX for the ends of the ints.
 */
final class Ship {
    static final int MOST_CALLS = 512;
    private static final Map<String, Method> PROGRAM = callsOf(HullCharts.class);
    private static final Map<String, Method> MODEL = callsOf(Model.class);

    private final Object object;
    private final Map<String, Method> calls;
    private int asked;

    Ship() {
        this(new HullCharts());
    }

    Ship(Object object) {
        this.object = object;
        calls = object instanceof Model ? MODEL : PROGRAM;
    }

    /** A new object with a SEA by this TEXT, which stays in SHEET 0 as bytes. */
    static Ship over(String text) {
        Ship ship = new Ship().text(0, 0, text);
        Due.isTrue(text + " is taken", ship.ask("sea", 0, 0, 0, text.length()) > 0);
        return ship;
    }

    private static Map<String, Method> callsOf(Class<?> of) {
        Map<String, Method> calls = new HashMap<>();
        for (Method method : of.getDeclaredMethods()) {
            if (Arrays.stream(HullCharts.class.getMethods()).anyMatch(face -> sameCall(face, method))) calls.put(method.getName(), method);
        }
        return calls;
    }

    private static boolean sameCall(Method one, Method other) {
        return one.getName().equals(other.getName()) && Arrays.equals(one.getParameterTypes(), other.getParameterTypes());
    }

    long ask(String name, int... numbers) {
        asked++;
        if (asked > MOST_CALLS) throw new IllegalStateException("a test asks an object more than it is good for: " + name);
        Object[] arguments = new Object[numbers.length];
        for (int p = 0; p < numbers.length; p++) arguments[p] = numbers[p];
        try {
            return ((Number) calls.get(name).invoke(object, arguments)).longValue();
        } catch (InvocationTargetException thrown) {
            Due.isTrue(name + Arrays.toString(numbers) + " threw " + thrown.getCause(), false);
            return 0;
        } catch (IllegalAccessException never) {
            throw new IllegalStateException(never);
        }
    }

    int asked() {
        return asked;
    }

    long ask(String call) {
        String[] words = call.split(" ");
        int[] numbers = new int[words.length - 1];
        for (int p = 0; p < numbers.length; p++) numbers[p] = number(words[p + 1]);
        return ask(words[0], numbers);
    }

    private static int number(String word) {
        if (word.equals("MIN")) return Integer.MIN_VALUE;
        return word.equals("MAX") ? Integer.MAX_VALUE : Integer.parseInt(word);
    }

    Ship due(String call, long want) {
        Due.due(call, ask(call), want);
        return this;
    }

    /** The call's answer, and what fault() tells then. */
    Ship due(String call, long want, int fault) {
        due(call, want);
        Due.due("fault behind " + call, ask("fault"), fault);
        return this;
    }

    Ship row(int k, int lane, int... numbers) {
        due("sheet " + k + " " + lane + " " + numbers.length, 1);
        for (int i = 0; i < numbers.length; i++) Due.due("put", ask("put", k, i, numbers[i]), 1);
        return this;
    }

    Ship text(int k, int lane, String text) {
        return row(k, lane, Due.codes(text));
    }

    /** Asks this row of a SHEET: its cells, and that no further one is there. */
    Ship rowIs(int k, int lane, int... want) {
        for (int i = 0; i < want.length; i++) Due.due("cell " + k + " " + i, ask("cell", k, i, lane), want[i]);
        return due("cell " + k + " " + want.length + " " + lane, HullCharts.LOST, 3);
    }

    Ship nothing(int k) {
        for (int lane = 0; lane <= 2; lane++) due("cell " + k + " 0 " + lane, HullCharts.LOST, 1);
        return this;
    }

    /** All that the calls show, one behind the other. It takes all READINGS back and comes to FAULTS, so it comes last. */
    List<String> show() {
        List<String> all = new ArrayList<>();
        show(all, "fault");
        for (int what = 0; what <= 6; what++) show(all, "many", what);
        show(all, "seen");
        show(all, "trace");
        int cells = (int) (ask("many", 0) * ask("many", 1));
        int lookers = (int) ask("many", 2);
        for (int c = 0; c <= cells; c++) show(all, "height", c);
        for (int k = 0; k <= lookers; k++) {
            for (int what = 0; what <= 4; what++) show(all, "ofLooker", k, what);
        }
        for (int k = 0; k <= 3; k++) showSheet(all, k);
        showReadings(all, lookers);
        return all;
    }

    private long show(List<String> all, String name, int... numbers) {
        long answer = ask(name, numbers);
        all.add(name + Arrays.toString(numbers) + " " + answer);
        return answer;
    }

    private void showSheet(List<String> all, int k) {
        for (int lane = 0; lane <= 2; lane++) {
            boolean isThere = show(all, "cell", k, 0, lane) != HullCharts.LOST;
            show(all, "fault");
            for (int i = 1; isThere && i <= 60; i++) isThere = show(all, "cell", k, i, lane) != HullCharts.LOST;
        }
    }

    private void showReadings(List<String> all, int lookers) {
        for (int count = 0; count <= 8; count++) {
            for (int k = 0; k < lookers; k++) {
                show(all, "shorts", k);
                show(all, "kinds", k);
            }
            if (show(all, "back", 1) < 0) return;
        }
    }

    /** Complains of the first place in which two shows differ. */
    static void alike(String what, List<String> got, List<String> want) {
        for (int p = 0; p < Math.min(got.size(), want.size()); p++) {
            if (got.get(p).equals(want.get(p))) continue;
            Due.isTrue(what + ": shown is " + got.get(p) + ", due is " + want.get(p), false);
            return;
        }
        Due.due(what + ": answers shown", got.size(), want.size());
    }
}
