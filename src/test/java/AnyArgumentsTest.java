import java.lang.reflect.Method;
import java.lang.reflect.Modifier;
import java.util.Arrays;
import java.util.Comparator;
import java.util.List;
import java.util.Random;

/** Any arguments, in any order of calls, from any State on: nothing is thrown, and all is as the model has it. */
public final class AnyArgumentsTest {
    private static final int[] NUMBERS = {Integer.MIN_VALUE, Integer.MIN_VALUE + 1, -101, -2, -1, 0, 0, 0, 1, 1, 1, 2, 2, 2, 3, 3,
        4, 5, 6, 7, 8, 9, 10, 12, 20, 21, 31, 32, 35, 36, 39, 40, 41, 59, 60, 61, 63, 64, Integer.MAX_VALUE - 1, Integer.MAX_VALUE};
    private static final int TURNS = 300;
    private static final int ROOM_TO_SHOW = 420;

    public static void main(String[] args) {
        List<Method> calls = Arrays.stream(HullCharts.class.getDeclaredMethods())
            .filter(method -> Modifier.isPublic(method.getModifiers())).sorted(Comparator.comparing(Method::getName)).toList();
        Random random = new Random(7);
        for (int turn = 0; turn < TURNS; turn++) {
            for (State state : State.values()) go(state + ", turn " + turn, state, calls, random, turn % 2 == 0 ? ROOM_TO_SHOW : 0);
        }
        Due.end();
    }

    private static void go(String told, State state, List<Method> calls, Random random, int room) {
        Ship program = state.bring(new Ship());
        Ship model = state.bring(new Ship(new Model()));
        while (program.asked() + 2 + room <= Ship.MOST_CALLS) {
            Method call = calls.get(random.nextInt(calls.size()));
            int[] arguments = new int[call.getParameterCount()];
            for (int p = 0; p < arguments.length; p++) arguments[p] = NUMBERS[random.nextInt(NUMBERS.length)];
            String what = told + ": " + call.getName() + Arrays.toString(arguments);
            Due.due(what, program.ask(call.getName(), arguments), model.ask(call.getName(), arguments));
            Due.due(what + ", fault", program.ask("fault"), model.ask("fault"));
        }
        if (room > 0) Ship.alike("behind " + told, program.show(), model.show());
    }
}
