import java.util.Random;

/** All promises: runs of calls, the same each time, are answered by the program and by the model. */
public final class ModelTest {
    private static final int RUNS = 6000;
    private static final int CALLS = 512;
    private static final int LAST_ASKED = 7 + 36;
    private static final int MOST_OF_A_TURN = 60;
    private static final int SORTS = 32;
    private static final int[] FAR = {Integer.MIN_VALUE, Integer.MAX_VALUE, -2, 60, 61, 64, 100, -100};

    private final Random random;
    private final HullCharts program = new HullCharts();
    private final Model model = new Model();
    private final StringBuilder told = new StringBuilder();
    private int calls;

    private ModelTest(int run) {
        random = new Random(run);
    }

    public static void main(String[] args) {
        for (int run = 0; run < RUNS; run++) new ModelTest(run).go(run);
        Due.end();
    }

    private void go(int run) {
        if (run % 8 != 0) layAll(SORTS);
        while (calls + MOST_OF_A_TURN + LAST_ASKED <= CALLS) {
            int sort = random.nextInt(SORTS + 2);
            if (sort >= SORTS) layAll(random.nextInt(2) == 0 ? SORTS : sort + 1);
            else ask(run, sort);
        }
        for (int what = 0; what <= 6; what++) compare(run, "many " + what, program.many(what), model.many(what));
        for (int c = 0; c < 36; c++) compare(run, "height " + c, program.height(c), model.height(c));
    }

    private void compare(int run, String call, long got, long want) {
        calls++;
        Due.due("run " + run + ": " + call, got, want);
    }

    private int few(int most) {
        return random.nextInt(60) == 0 ? FAR[random.nextInt(FAR.length)] : random.nextInt(most + 3) - 1;
    }

    private int inside(int most) {
        return random.nextInt(25) == 0 ? few(most) : random.nextInt(most + 1);
    }

    private void put(int k, int lane, int[] numbers) {
        calls += 1 + numbers.length;
        program.sheet(k, lane, numbers.length);
        model.sheet(k, lane, numbers.length);
        for (int i = 0; i < numbers.length; i++) {
            program.put(k, i, numbers[i]);
            model.put(k, i, numbers[i]);
        }
    }

    /** A whole row at once, as rows of single numbers would be a TEXT or a VOYAGE hardly ever. */
    private void layAll(int sort) {
        int k = random.nextInt(4);
        int lane = random.nextInt(3);
        if (sort == SORTS) {
            String text = text();
            put(k, lane, Due.codes(text));
            int got = program.sea(k, lane, 0, text.length());
            compare(0, "sea of " + text, got, model.sea(k, lane, 0, text.length()));
        } else {
            int[] numbers = new int[random.nextInt(40)];
            int most = 1 + random.nextInt(sort == SORTS + 1 ? 9 : 4);
            for (int i = 0; i < numbers.length; i++) numbers[i] = random.nextInt(most);
            put(k, lane, numbers);
        }
    }

    private String text() {
        int wide = 2 + random.nextInt(5);
        int rows = 2 + random.nextInt(5);
        int many = 1 + random.nextInt(Math.min(4, wide));
        StringBuilder text = new StringBuilder("f").append(wide).append(rows);
        int highest = 1 + random.nextInt(10);
        for (int c = 0; c < wide * rows; c++) text.append(random.nextInt(highest));
        for (int k = 0; k < many; k++) text.append(';').append("pdg".charAt(random.nextInt(3))).append(random.nextInt(4));
        text.append('/').append(random.nextInt(wide - many + 1)).append(random.nextInt(rows));
        if (random.nextInt(2) == 0) spoil(text);
        return text.toString();
    }

    private void spoil(StringBuilder text) {
        int p = random.nextInt(text.length());
        switch (random.nextInt(4)) {
            case 0 -> text.setLength(p);
            case 1 -> text.deleteCharAt(p);
            case 2 -> text.setCharAt(p, "f0123456789;/pdg~".charAt(random.nextInt(17)));
            default -> text.insert(p, "0;/;p0".charAt(random.nextInt(6)));
        }
    }

    private void ask(int run, int sort) {
        int a = few(3);
        int b = inside(2);
        int c = few(20);
        int d = few(6);
        int e = inside(3);
        int f = inside(2);
        int cell = few(35);
        told.setLength(0);
        told.append("sort ").append(sort).append(" of ").append(a).append(' ').append(b).append(' ').append(c).append(' ')
            .append(d).append(' ').append(e).append(' ').append(f).append(' ').append(cell);
        String call = told.toString();
        switch (sort) {
            case 0 -> compare(run, call, program.sea(a, b, c, d), model.sea(a, b, c, d));
            case 1 -> compare(run, call, program.ofLooker(a, d), model.ofLooker(a, d));
            case 2 -> compare(run, call, program.height(cell), model.height(cell));
            case 3 -> compare(run, call, program.heap(cell, d), model.heap(cell, d));
            case 4 -> compare(run, call, program.dim(a, d), model.dim(a, d));
            case 5 -> compare(run, call, program.scrape(a), model.scrape(a));
            case 6 -> compare(run, call, program.grow(a), model.grow(a));
            case 7 -> compare(run, call, program.seen(), model.seen());
            case 8, 9 -> compare(run, call, program.step(d), model.step(d));
            case 10, 11 -> compare(run, call, program.voyage(a, b, e, d, f + e), model.voyage(a, b, e, d, f + e));
            case 12 -> compare(run, call, program.way(cell, d), model.way(cell, d));
            case 13 -> compare(run, call, program.most(f + 1, e - 1), model.most(f + 1, e - 1));
            case 14 -> compare(run, call, program.flat(cell), model.flat(cell));
            case 15, 16 -> compare(run, call, program.begun(a, b, c, f + 1, e, f), model.begun(a, b, c, f + 1, e, f));
            case 17 -> compare(run, call, program.begun(a, b, c, 1, e, f), model.begun(a, b, c, 1, e, f));
            case 18 -> compare(run, call, program.run(a, b, e, c, d % 2), model.run(a, b, e, c, d % 2));
            case 19 -> compare(run, call, program.reading(a, d, e), model.reading(a, d, e));
            case 20 -> compare(run, call, program.back(a), model.back(a));
            case 21 -> compare(run, call, program.shorts(a), model.shorts(a));
            case 22 -> compare(run, call, program.kinds(a), model.kinds(a));
            case 23 -> compare(run, call, program.odds(a, d, e % 2), model.odds(a, d, e % 2));
            case 24 -> compare(run, call, program.put(a, c, cell * 997), model.put(a, c, cell * 997));
            case 25 -> compare(run, call, program.cell(a, c, b), model.cell(a, c, b));
            case 26 -> compare(run, call, program.copy(a, c, e, d, b * 4), model.copy(a, c, e, d, b * 4));
            case 27 -> compare(run, call, program.tell(a), model.tell(a));
            case 28 -> compare(run, call, program.greet(a), model.greet(a));
            case 29 -> compare(run, call, program.as(a, b), model.as(a, b));
            case 30 -> compare(run, call, lost(program.lose(a), d, b, c), lost(model.lose(a), d, b, c, model));
            default -> compare(run, call, program.many(d), model.many(d));
        }
        compare(run, call + ", fault", program.fault(), model.fault());
        if (calls % 3 == 0) compare(run, call + ", trace", program.trace(), model.trace());
        if (calls % 3 == 1) compare(run, call + ", seen", program.seen(), model.seen());
    }

    private long lost(int answer, int k, int lane, int n) {
        calls++;
        return answer * 1000L + program.sheet(k, lane, n);
    }

    private long lost(int answer, int k, int lane, int n, Model of) {
        return answer * 1000L + of.sheet(k, lane, n);
    }
}
