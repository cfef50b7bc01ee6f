import java.util.Arrays;
import java.util.Random;

/**
 * Promises 11 to 21 where a random number hardly ever hits: long voyages that can be, begins by what was told indeed,
 * runs that are told again, readings that are so, in seas of all shapes. The model must answer alike.
 */
public final class SearchTest {
    private static final int SEAS = 900;
    private static final int[] ACROSS = {0, 1, 0, -1};
    private static final int[] ALONG = {-1, 0, 1, 0};

    private final Random random;
    private final Ship program = new Ship();
    private final Ship model = new Ship(new Model());
    private final int wide;
    private final int rows;
    private final int lookers;

    private SearchTest(int seed) {
        random = new Random(seed);
        wide = 2 + random.nextInt(5);
        rows = 2 + random.nextInt(5);
        lookers = 1 + random.nextInt(Math.min(4, wide));
    }

    public static void main(String[] args) {
        for (int seed = 0; seed < SEAS; seed++) new SearchTest(seed).go(seed);
        Due.end();
    }

    private void go(int seed) {
        begin();
        switch (seed % 6) {
            case 0 -> ways();
            case 1 -> most();
            case 2 -> flats();
            case 3 -> voyages();
            case 4 -> begins();
            default -> readings();
        }
        runs();
    }

    private long both(String name, int... numbers) {
        long want = model.ask(name, numbers);
        Due.due(this + " " + name + " " + Arrays.toString(numbers), program.ask(name, numbers), want);
        return want;
    }

    @Override
    public String toString() {
        return wide + " wide, " + rows + " long, " + lookers + " lookers:";
    }

    private void row(int k, int lane, int... numbers) {
        both("sheet", k, lane, numbers.length);
        for (int i = 0; i < numbers.length; i++) both("put", k, i, numbers[i]);
    }

    /** A SEA of few HEIGHTS, some STEPS on it, some LOOKERS GONE. */
    private void begin() {
        StringBuilder text = new StringBuilder("f").append(wide).append(rows);
        int highest = 2 + random.nextInt(3);
        for (int c = 0; c < wide * rows; c++) text.append(random.nextInt(highest));
        for (int k = 0; k < lookers; k++) text.append(';').append("pdg".charAt(random.nextInt(3))).append(random.nextInt(4));
        text.append('/').append(random.nextInt(wide - lookers + 1)).append(random.nextInt(rows));
        row(0, 0, Due.codes(text.toString()));
        both("sea", 0, 0, 0, text.length());
        for (int turn = random.nextInt(12); turn > 0; turn--) {
            if (random.nextInt(4) == 0) both(random.nextInt(3) > 0 ? "scrape" : "grow", random.nextInt(lookers));
            else both("step", random.nextInt(4));
        }
    }

    private void ways() {
        for (int cell = 0; cell < wide * rows; cell++) {
            long steps = both("way", cell, -1);
            for (int k = 0; k <= Math.min(steps, 9); k++) both("way", cell, k);
        }
    }

    private void most() {
        for (int n = 1; n <= 5; n++) {
            for (int k = -1; k <= n && k <= 4; k++) both("most", n, k);
        }
    }

    private void flats() {
        for (int cell = 0; cell < wide * rows; cell++) both("flat", cell);
        for (int turn = 0; turn < 20; turn++) {
            both("heap", random.nextInt(wide * rows), random.nextInt(2));
            both("flat", random.nextInt(wide * rows));
        }
        for (int k = 0; k < lookers; k++) {
            for (int v = 0; v <= 12; v++) {
                both("odds", k, v, 0);
                both("odds", k, v, 1);
            }
        }
    }

    /** STEPS that can be but for, at times, one. */
    private void voyages() {
        int place = (int) both("many", 3);
        int column = place % wide;
        int row = place / wide;
        int[] steps = new int[40];
        int wrong = random.nextInt(80);
        for (int p = 0; p < 40; p++) {
            int sort = random.nextInt(4);
            while (p != wrong && !canBe(column + ACROSS[sort], row + ALONG[sort])) sort = random.nextInt(4);
            steps[p] = sort;
            column += ACROSS[sort];
            row += ALONG[sort];
        }
        row(1, 1, steps);
        for (int n = 0; n <= 40; n += 4) {
            for (int what = 0; what <= 4; what++) both("voyage", 1, 1, 0, n, what);
        }
        for (int what = 0; what <= 4; what++) both("voyage", 1, 1, 0, 39, what);
    }

    private boolean canBe(int column, int row) {
        return column >= 0 && column + lookers <= wide && row >= 0 && row < rows;
    }

    /** What is told from where the ship is on by STEPS of one sort, at times with one number that is another. */
    private void begins() {
        int sort = random.nextInt(4);
        for (int back = 0; back < 6; back++) both("step", (sort + 2) % 4);
        int[] numbers = new int[6 * lookers];
        int n = 0;
        do {
            for (int k = 0; k < lookers; k++) numbers[n * lookers + k] = (int) both("ofLooker", k, 4);
            n++;
        } while (n < 6 && both("step", sort) >= 0);
        if (random.nextInt(3) == 0) numbers[random.nextInt(n * lookers)]++;
        row(1, 2, numbers);
        for (int rowsTold = 1; rowsTold <= 6; rowsTold++) {
            for (int what = 0; what <= 2; what++) both("begun", 1, 2, 0, rowsTold, sort, what);
            both("begun", 1, 2, 0, rowsTold, (sort + 1) % 4, 0);
        }
        for (int k = 0; k < lookers; k++) {
            both("scrape", k);
            for (int what = 0; what <= 2; what++) both("begun", 1, 2, 0, n, sort, what);
        }
    }

    /** What LOOKERS tell indeed, at times what they do not, or of another SHORT. */
    private void readings() {
        for (int turn = 0; turn < 12; turn++) {
            int k = random.nextInt(lookers);
            int cell = random.nextInt(wide * rows);
            both("heap", cell, random.nextInt(10));
            int height = (int) both("height", cell);
            int plain = (int) Math.max(height - both("ofLooker", k, 1), 0);
            int kind = (int) both("ofLooker", k, 0);
            int told = kind == 0 ? plain : (plain + 1) * kind;
            both("reading", k, height, random.nextInt(6) == 0 ? random.nextInt(21) : told);
            for (int other = 0; other < lookers; other++) {
                both("shorts", other);
                both("kinds", other);
            }
            if (random.nextInt(5) == 0) both("dim", k, random.nextInt(10));
            if (random.nextInt(5) == 0) both("back", random.nextInt(3));
        }
    }

    /** A row that is told again and again, at times with one number that is another. */
    private void runs() {
        int length = 1 + random.nextInt(25);
        int[] numbers = new int[40];
        for (int p = 0; p < 40; p++) numbers[p] = p < length ? random.nextInt(3) - 1 : numbers[p - length];
        if (random.nextInt(3) == 0) numbers[random.nextInt(40)] = 5;
        row(2, random.nextInt(3), numbers);
        for (int turn = 0; turn < 12; turn++) {
            int i = random.nextInt(10);
            for (int lane = 0; lane <= 2; lane++) both("run", 2, lane, i, random.nextInt(40 - i) + 1, turn % 2);
        }
    }
}
