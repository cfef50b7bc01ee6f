import java.lang.reflect.InvocationTargetException;
import java.lang.reflect.Method;
import java.lang.reflect.Modifier;
import java.util.Arrays;
import java.util.Comparator;
import java.util.List;
import java.util.Random;
import java.util.Set;

/** Any arguments in any state: nothing is thrown, a refusal and a question change nothing (but fault). */
public final class AnyArgumentsTest {
    private static final int[] NUMBERS = {Integer.MIN_VALUE, Integer.MIN_VALUE + 1, -101, -2, -1, 0, 0, 0, 1, 1, 1, 2, 2, 2, 3, 3,
        4, 5, 6, 7, 8, 9, 10, 12, 20, 21, 31, 32, 35, 36, 39, 40, 41, 59, 60, 61, 63, 64, Integer.MAX_VALUE - 1, Integer.MAX_VALUE};
    private static final Set<String> QUESTIONS = Set.of("ofLooker", "height", "seen", "voyage", "way", "most", "flat", "begun", "run",
        "shorts", "kinds", "odds", "cell", "as", "trace", "fault", "many");
    private static final Set<String> NAME_FAULTS = Set.of("sea", "voyage", "begun", "run", "sheet", "put", "cell", "copy", "as");

    public static void main(String[] args) throws IllegalAccessException {
        List<Method> calls = Arrays.stream(HullCharts.class.getDeclaredMethods())
            .filter(method -> Modifier.isPublic(method.getModifiers())).sorted(Comparator.comparing(Method::getName)).toList();
        Random random = new Random(7);
        for (int turn = 0; turn < 4; turn++) {
            for (HullCharts x : states()) {
                for (int n = 0; n < 4000; n++) ask(x, calls.get(random.nextInt(calls.size())), random);
            }
        }
        Due.end();
    }

    private static List<HullCharts> states() {
        HullCharts least = Due.with("f220120;d3/10");
        HullCharts greatest = Due.with("f66" + "012345678998765432100123456789987654" + ";p0;d1;g2;p9/25");
        HullCharts gone = Due.with("f521234567890;g0;p3/01");
        gone.scrape(0);
        gone.scrape(1);
        HullCharts full = Due.with("f26111111111111;d0/15");
        for (int r = 0; r < 8; r++) full.reading(0, r, r + 1);
        Due.lay(full, 1, 1, 0, 1, 2, 3, 0, 1, 2, 3);
        Due.lay(full, 2, 2, new int[60]);
        Due.lay(greatest, 1, 2, new int[24]);
        return List.of(new HullCharts(), least, greatest, gone, full);
    }

    private static void ask(HullCharts x, Method call, Random random) throws IllegalAccessException {
        Object[] arguments = new Object[call.getParameterCount()];
        for (int p = 0; p < arguments.length; p++) arguments[p] = NUMBERS[random.nextInt(NUMBERS.length)];
        String told = call.getName() + Arrays.toString(arguments);
        String before = digest(x);
        comeToAFault(x, random.nextInt(4));
        int fault = x.fault();
        try {
            long answer = ((Number) call.invoke(x, arguments)).longValue();
            faultBehind(x, call.getName(), told, answer, fault);
            if (answer < 0 || QUESTIONS.contains(call.getName())) Due.isTrue(told + " changes nothing", digest(x).equals(before));
        } catch (InvocationTargetException thrown) {
            Due.isTrue(told + " threw " + thrown.getCause(), false);
        }
    }

    private static void comeToAFault(HullCharts x, int which) {
        if (which == 0) x.sheet(0, 0, -1);
        else x.put(which, -1, 0);
        Due.isTrue("there is a fault", x.fault() > 0);
    }

    private static void faultBehind(HullCharts x, String name, String told, long answer, int before) {
        if (!NAME_FAULTS.contains(name)) Due.due("fault behind " + told, x.fault(), before);
        else if (name.equals("cell")) Due.isTrue("fault behind " + told, x.fault() == 0 || answer == HullCharts.LOST);
        else if (!name.equals("run") || x.fault() != 0) {
            Due.due("fault behind " + told, x.fault(), answer <= -11 && answer >= -14 ? -10 - answer : 0);
        }
    }

    private static String digest(HullCharts x) {
        StringBuilder all = new StringBuilder();
        for (int what = 0; what <= 6; what++) all.append(x.many(what)).append(' ');
        all.append(x.seen()).append(' ').append(x.trace());
        for (int c = 0; c < x.many(0) * x.many(1); c++) all.append(' ').append(x.height(c));
        for (int k = 0; k < x.many(2); k++) {
            for (int what = 0; what <= 4; what++) all.append(' ').append(x.ofLooker(k, what));
            all.append(' ').append(x.shorts(k)).append(' ').append(x.kinds(k));
        }
        for (int k = 0; k <= 3; k++) {
            for (int lane = 0; lane <= 2; lane++) {
                for (int i = -1; i <= 60; i++) all.append(' ').append(x.cell(k, i, lane)).append(x.fault());
            }
        }
        return all.toString();
    }
}
