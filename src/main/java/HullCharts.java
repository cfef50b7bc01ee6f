import java.util.Arrays;

/** What barnacles tell of the floor of the sea; its numbered promises stand in ../shared/DOC.md. */
public final class HullCharts {
    public static final int UNKNOWN = -1, OUTSIDE = -2, STATE = -3, FULL = -4, NONE = -9;
    public static final long LOST = Long.MIN_VALUE;

    private static final int NO_FAULT = 0, NULL = 1, CAST = 2, INDEX = 3, SIZE = 4;
    private static final int BYTES = 0, SHORTS = 1, INTS = 2;
    private static final int PLAIN = 0, DEEP = 1, GRAND = 2;
    private static final int UP = 0, RIGHT = 1, DOWN = 2, LEFT = 3;
    private static final int LONGEST_SHEET = 60;
    private static final int LONGEST_VOYAGE = 40, LONGEST_RUN = 40, LONGEST_WAY = 10, LONGEST_MOST = 5;
    private static final int MOST_ROWS = 6;
    private static final int HIGHEST = 9, MOST_TOLD = 20;

    private final Sheet[] sheets;
    private final Sea chart;
    private final Readings readings;
    /** The cells that the call at hand takes of a SHEET: one row for all calls, as room is scarce. */
    private final int[] taken;
    private int traced;
    private int latestFault;

    public HullCharts() {
        sheets = new Sheet[] {new Sheet(), new Sheet(), new Sheet(), new Sheet()};
        chart = new Sea();
        readings = new Readings();
        taken = new int[LONGEST_SHEET];
    }

    // ---- 1 the sea

    public int sea(int sheet, int lane, int i, int n) {
        latestFault = NO_FAULT;
        Sheet source = sheetOf(sheet);
        if (source == null) return UNKNOWN;
        if (!isLane(lane)) return OUTSIDE;
        int fault = take(source, lane, i, n);
        if (fault != NO_FAULT) return faulted(fault);
        int wrong = SeaText.firstFault(taken, n);
        if (wrong != SeaText.WHOLE) return -100 - wrong;
        chart.beginBy(taken, n);
        readings.keep(0);
        return chart.lookers();
    }

    public int ofLooker(int k, int what) {
        if (!chart.isLooker(k)) return UNKNOWN;
        switch (what) {
            case 0: return chart.kindOf(k);
            case 1: return chart.shortOf(k);
            case 2: return chart.isGone(k) ? 1 : 0;
            case 3: return chart.place() + k;
            case 4: return chart.toldOf(k, chart.place() + k);
            default: return OUTSIDE;
        }
    }

    public int height(int cell) {
        return chart.isCell(cell) ? chart.heightOf(cell) : UNKNOWN;
    }

    public int heap(int cell, int v) {
        if (!chart.isCell(cell)) return UNKNOWN;
        if (!isDigit(v)) return OUTSIDE;
        int was = chart.heightOf(cell);
        chart.makeHeight(cell, v);
        return was;
    }

    public int dim(int k, int v) {
        if (!chart.isLooker(k)) return UNKNOWN;
        if (!isDigit(v)) return OUTSIDE;
        int was = chart.shortOf(k);
        chart.makeShort(k, v);
        return was;
    }

    public int scrape(int k) {
        if (!chart.isLooker(k)) return UNKNOWN;
        if (chart.isGone(k)) return STATE;
        chart.takeOff(k);
        return chart.lookersLeft();
    }

    public int grow(int k) {
        if (!chart.isLooker(k)) return UNKNOWN;
        if (!chart.isGone(k)) return STATE;
        chart.bringBack(k);
        return chart.lookersLeft();
    }

    public long seen() {
        return chart.exists() ? chart.seenCells() : LOST;
    }

    // ---- 2 steps

    public int step(int sort) {
        if (!isStep(sort)) return OUTSIDE;
        if (!chart.exists()) return STATE;
        int next = chart.nextPlace(chart.place(), sort);
        if (next == NONE) return STATE;
        int before = Long.bitCount(chart.seenCells());
        chart.moveTo(next);
        return Long.bitCount(chart.seenCells()) - before;
    }

    public int voyage(int sheet, int lane, int i, int n, int what) {
        latestFault = NO_FAULT;
        Sheet source = sheetOf(sheet);
        if (source == null) return UNKNOWN;
        if (!isLane(lane) || !within(n, 0, LONGEST_VOYAGE) || !within(what, 0, 4)) return OUTSIDE;
        if (!chart.exists()) return STATE;
        int fault = take(source, lane, i, n);
        if (fault != NO_FAULT) return faulted(fault);
        for (int p = 0; p < n; p++) {
            if (!isStep(numberAt(taken, p))) return OUTSIDE;
        }
        return chart.ofVoyage(taken, n, what);
    }

    // ---- 3 where to go, where it was

    public int way(int cell, int k) {
        if (!chart.isCell(cell)) return UNKNOWN;
        if (!within(k, -1, LONGEST_WAY - 1)) return OUTSIDE;
        return chart.ofWay(cell, k);
    }

    public int most(int n, int k) {
        if (!within(n, 1, LONGEST_MOST) || !within(k, -1, LONGEST_MOST - 1)) return OUTSIDE;
        if (!chart.exists()) return STATE;
        return chart.ofMost(n, k);
    }

    public int flat(int cell) {
        return chart.isCell(cell) ? Long.bitCount(chart.flatWith(cell)) : UNKNOWN;
    }

    public int begun(int sheet, int lane, int i, int n, int sort, int what) {
        latestFault = NO_FAULT;
        Sheet source = sheetOf(sheet);
        if (source == null) return UNKNOWN;
        if (!isLane(lane) || !within(n, 1, MOST_ROWS) || !isStep(sort) || !within(what, 0, 2)) return OUTSIDE;
        if (!chart.exists()) return STATE;
        int fault = take(source, lane, i, n * chart.lookers());
        if (fault != NO_FAULT) return faulted(fault);
        return chart.ofBegins(taken, n, sort, what);
    }

    public int run(int sheet, int lane, int i, int n, int what) {
        latestFault = NO_FAULT;
        Sheet source = sheetOf(sheet);
        if (source == null) return UNKNOWN;
        if (!isLane(lane) || !within(n, 1, LONGEST_RUN) || !within(what, 0, 1)) return OUTSIDE;
        int fault = take(source, lane, i, n);
        if (fault != NO_FAULT) return faulted(fault);
        int length = leastLengthToldAgain(n);
        return what == 0 ? length : numberAt(taken, n - length);
    }

    // ---- 4 what was told

    public int reading(int k, int height, int v) {
        if (!chart.isLooker(k)) return UNKNOWN;
        if (!isDigit(height) || !within(v, 0, MOST_TOLD)) return OUTSIDE;
        if (readings.areFull()) return FULL;
        return readings.add(k, height, v);
    }

    public int back(int k) {
        if (!within(k, 0, readings.count())) return OUTSIDE;
        readings.keep(readings.count() - k);
        return readings.count();
    }

    public int shorts(int k) {
        if (!chart.isLooker(k)) return UNKNOWN;
        int bits = 0;
        for (int v = 0; v <= HIGHEST; v++) {
            if (readings.areSo(chart, k, chart.kindOf(k), v)) bits |= 1 << v;
        }
        return bits;
    }

    public int kinds(int k) {
        if (!chart.isLooker(k)) return UNKNOWN;
        int bits = 0;
        for (int kind = PLAIN; kind <= GRAND; kind++) {
            if (readings.areSo(chart, k, kind, chart.shortOf(k))) bits |= 1 << kind;
        }
        return bits;
    }

    public long odds(int k, int v, int which) {
        if (!chart.isLooker(k)) return LOST;
        if (!within(v, 0, MOST_TOLD) || !within(which, 0, 1)) return LOST;
        int upper = chart.placesWhereTold(k, v);
        int lower = chart.places();
        int divisor = greatestDivisor(upper, lower);
        if (divisor == 0) return LOST;
        return which == 0 ? upper / divisor : lower / divisor;
    }

    // ---- 5 sheets, parts

    public int sheet(int k, int lane, int n) {
        latestFault = NO_FAULT;
        Sheet sheet = sheetOf(k);
        if (sheet == null) return UNKNOWN;
        if (!isLane(lane) || n > LONGEST_SHEET) return OUTSIDE;
        if (n < 0) return faulted(SIZE);
        sheet.renew(lane, n);
        return 1;
    }

    public int lose(int k) {
        Sheet sheet = sheetOf(k);
        if (sheet == null) return UNKNOWN;
        if (sheet.hasNothing()) return 0;
        sheet.clear();
        return 1;
    }

    public int put(int k, int i, int v) {
        latestFault = NO_FAULT;
        Sheet sheet = sheetOf(k);
        if (sheet == null) return UNKNOWN;
        if (sheet.hasNothing()) return faulted(NULL);
        if (!sheet.hasCells(i, 1)) return faulted(INDEX);
        sheet.write(i, v);
        return 1;
    }

    public long cell(int k, int i, int lane) {
        latestFault = NO_FAULT;
        Sheet sheet = sheetOf(k);
        if (sheet == null || !isLane(lane)) return LOST;
        latestFault = sheet.faultInTaking(lane, i, 1);
        return latestFault == NO_FAULT ? sheet.read(i) : LOST;
    }

    public int copy(int k, int i, int other, int j, int n) {
        latestFault = NO_FAULT;
        Sheet from = sheetOf(k);
        Sheet to = sheetOf(other);
        if (from == null || to == null) return UNKNOWN;
        if (from.hasNothing() || to.hasNothing()) return faulted(NULL);
        if (from.lane() != to.lane()) return faulted(CAST);
        if (!from.hasCells(i, n) || !to.hasCells(j, n)) return faulted(INDEX);
        readInto(taken, from, i, n);
        for (int p = 0; p < n; p++) to.write(j + p, numberAt(taken, p));
        return n;
    }

    public int tell(int k) {
        if (!chart.isLooker(k)) return UNKNOWN;
        switch (chart.kindOf(k)) {
            case GRAND: return grandBody(k);
            case DEEP: return deepBody(k);
            default: return plainBody(k);
        }
    }

    public int greet(int k) {
        if (!chart.isLooker(k)) return UNKNOWN;
        return chart.kindOf(k) == GRAND ? ownGreetingBody() : lentGreetingBody(k);
    }

    public int as(int k, int kind) {
        latestFault = NO_FAULT;
        if (!chart.isLooker(k)) return UNKNOWN;
        if (!within(kind, PLAIN, GRAND)) return OUTSIDE;
        return chart.kindOf(k) >= kind ? 1 : faulted(CAST);
    }

    public int trace() {
        return traced;
    }

    public int fault() {
        return latestFault;
    }

    public int many(int what) {
        switch (what) {
            case 0: return chart.columns();
            case 1: return chart.rows();
            case 2: return chart.lookers();
            case 3: return chart.place();
            case 4: return chart.stepsDone();
            case 5: return Long.bitCount(chart.seenCells());
            case 6: return readings.count();
            default: return OUTSIDE;
        }
    }

    // ---- what the calls share

    private Sheet sheetOf(int k) {
        return k >= 0 && k < sheets.length ? sheets[k] : null;
    }

    private int faulted(int fault) {
        latestFault = fault;
        return -10 - fault;
    }

    /** Lays n cells of a SHEET from i on into the row taken, or tells the FAULT that is come to. */
    private int take(Sheet source, int lane, int i, int n) {
        int fault = source.faultInTaking(lane, i, n);
        if (fault == NO_FAULT) readInto(taken, source, i, n);
        return fault;
    }

    private static void readInto(int[] row, Sheet source, int i, int n) {
        for (int p = 0; p < n; p++) setNumber(row, p, source.read(i + p));
    }

    private int leastLengthToldAgain(int n) {
        for (int length = 1; length < n; length++) {
            if (isToldAgain(length, n)) return length;
        }
        return n;
    }

    private boolean isToldAgain(int length, int n) {
        for (int p = length; p < n; p++) {
            if (numberAt(taken, p) != numberAt(taken, p - length)) return false;
        }
        return true;
    }

    private void leaveInTrace(int body) {
        traced = 31 * traced + body;
    }

    private int plainBody(int k) {
        leaveInTrace(1);
        return chart.shortOf(k);
    }

    private int deepBody(int k) {
        leaveInTrace(2);
        return plainBody(k) + 100;
    }

    private int grandBody(int k) {
        leaveInTrace(3);
        int deep = deepBody(k);
        return deep + plainBody(k);
    }

    private int lentGreetingBody(int k) {
        leaveInTrace(4);
        return k;
    }

    private int ownGreetingBody() {
        leaveInTrace(5);
        return 90;
    }

    private static boolean within(int v, int least, int greatest) {
        return v >= least && v <= greatest;
    }

    private static boolean isLane(int lane) {
        return within(lane, BYTES, INTS);
    }

    private static boolean isStep(int sort) {
        return within(sort, UP, LEFT);
    }

    private static boolean isDigit(int v) {
        return within(v, 0, HIGHEST);
    }

    /** The greatest number that divides both; 0 if b is not above 0. */
    private static int greatestDivisor(int a, int b) {
        for (int divisor = b; divisor > 0; divisor--) {
            if (a % divisor == 0 && b % divisor == 0) return divisor;
        }
        return 0;
    }

    /** Rows of numbers are read and written by these two alone: their look at the index keeps it safe. */
    private static int numberAt(int[] row, int i) {
        return i >= 0 && i < row.length ? row[i] : 0;
    }

    private static void setNumber(int[] row, int i, int v) {
        if (i >= 0 && i < row.length) row[i] = v;
    }

    /** A row of a LANE, or nothing. The longest row is made once and used again. */
    private static final class Sheet {
        private static final int NOTHING = -1;
        private final int[] numbers = new int[LONGEST_SHEET];
        private int length = NOTHING;
        private int lane;

        boolean hasNothing() {
            return length == NOTHING;
        }

        int lane() {
            return lane;
        }

        /** By a difference, as the sum of i and n could wrap. */
        boolean hasCells(int i, int n) {
            return i >= 0 && n >= 0 && i <= length - n;
        }

        int faultInTaking(int asLane, int i, int n) {
            if (hasNothing()) return NULL;
            if (asLane != lane) return CAST;
            if (n < 0) return SIZE;
            return hasCells(i, n) ? NO_FAULT : INDEX;
        }

        void renew(int newLane, int n) {
            lane = newLane;
            length = n;
            Arrays.fill(numbers, 0);
        }

        void clear() {
            length = NOTHING;
        }

        int read(int i) {
            return numberAt(numbers, i);
        }

        void write(int i, int v) {
            setNumber(numbers, i, cutToLane(v));
        }

        private int cutToLane(int v) {
            if (lane == BYTES) return (byte) v;
            return lane == SHORTS ? (short) v : v;
        }
    }

    /** How the TEXT of a SEA is read. A code that is missing is read as -1, with which no TEXT goes on. */
    private static final class SeaText {
        static final int WHOLE = -1;
        static final int HEAD = 3, PER_LOOKER = 3, TAIL = 3;
        static final int LEAST_EDGE = 2, GREATEST_EDGE = 6, MOST_LOOKERS = 4;

        static int firstFault(int[] codes, int n) {
            if (codeAt(codes, n, 0) != 'f') return 0;
            int wide = digitOf(codeAt(codes, n, 1));
            if (!isEdge(wide)) return 1;
            int rows = digitOf(codeAt(codes, n, 2));
            if (!isEdge(rows)) return 2;
            int end = HEAD + wide * rows;
            for (int p = HEAD; p < end; p++) {
                if (digitOf(codeAt(codes, n, p)) < 0) return p;
            }
            return faultInLookers(codes, n, end);
        }

        private static int faultInLookers(int[] codes, int n, int start) {
            int most = Math.min(digitOf(numberAt(codes, 1)), MOST_LOOKERS);
            for (int lookers = 0; lookers <= most; lookers++) {
                int p = start + PER_LOOKER * lookers;
                int code = codeAt(codes, n, p);
                if (code == '/' && lookers > 0) return faultInTail(codes, n, p, lookers);
                if (code != ';' || lookers == most) return p;
                if (kindOf(codeAt(codes, n, p + 1)) < 0) return p + 1;
                if (digitOf(codeAt(codes, n, p + 2)) < 0) return p + 2;
            }
            return start;
        }

        private static int faultInTail(int[] codes, int n, int p, int lookers) {
            int column = digitOf(codeAt(codes, n, p + 1));
            if (column < 0 || column + lookers > digitOf(numberAt(codes, 1))) return p + 1;
            int row = digitOf(codeAt(codes, n, p + 2));
            if (row < 0 || row >= digitOf(numberAt(codes, 2))) return p + 2;
            return p + TAIL == n ? WHOLE : p + TAIL;
        }

        private static int codeAt(int[] codes, int n, int p) {
            return p < n ? numberAt(codes, p) : -1;
        }

        private static boolean isEdge(int digit) {
            return within(digit, LEAST_EDGE, GREATEST_EDGE);
        }

        static int digitOf(int code) {
            return within(code, '0', '9') ? code - '0' : -1;
        }

        static int kindOf(int code) {
            switch (code) {
                case 'p': return PLAIN;
                case 'd': return DEEP;
                case 'g': return GRAND;
                default: return -1;
            }
        }
    }

    /** The floor, the LOOKERS over it and where the ship is; all its numbers are 0 while there is no SEA. */
    private static final class Sea {
        private static final int NO_WAY = 99;
        private final int[] heights = new int[SeaText.GREATEST_EDGE * SeaText.GREATEST_EDGE];
        private final int[] lookerKinds = new int[SeaText.MOST_LOOKERS];
        private final int[] lookerShorts = new int[SeaText.MOST_LOOKERS];
        private int columns;
        private int rows;
        private int lookers;
        /** The LOOKERS who are not GONE, as a set. */
        private int onHull;
        private int place;
        private long seenCells;
        private int stepsDone;

        /** Makes all anew by a TEXT that is WHOLE. */
        void beginBy(int[] codes, int n) {
            columns = SeaText.digitOf(numberAt(codes, 1));
            rows = SeaText.digitOf(numberAt(codes, 2));
            for (int c = 0; c < cells(); c++) makeHeight(c, SeaText.digitOf(numberAt(codes, SeaText.HEAD + c)));
            int start = SeaText.HEAD + cells();
            lookers = (n - start - SeaText.TAIL) / SeaText.PER_LOOKER;
            for (int k = 0; k < lookers; k++) {
                int p = start + SeaText.PER_LOOKER * k;
                setNumber(lookerKinds, k, SeaText.kindOf(numberAt(codes, p + 1)));
                makeShort(k, SeaText.digitOf(numberAt(codes, p + 2)));
            }
            place = SeaText.digitOf(numberAt(codes, n - 2)) + columns * SeaText.digitOf(numberAt(codes, n - 1));
            onHull = (1 << lookers) - 1;
            seenCells = seenFrom(place);
            stepsDone = 0;
        }

        boolean exists() {
            return columns > 0;
        }

        int columns() {
            return columns;
        }

        int rows() {
            return rows;
        }

        int lookers() {
            return lookers;
        }

        int place() {
            return place;
        }

        long seenCells() {
            return seenCells;
        }

        int stepsDone() {
            return stepsDone;
        }

        int cells() {
            return columns * rows;
        }

        boolean isCell(int c) {
            return c >= 0 && c < cells();
        }

        boolean isLooker(int k) {
            return k >= 0 && k < lookers;
        }

        int heightOf(int c) {
            return numberAt(heights, c);
        }

        void makeHeight(int c, int v) {
            setNumber(heights, c, v);
        }

        int kindOf(int k) {
            return numberAt(lookerKinds, k);
        }

        int shortOf(int k) {
            return numberAt(lookerShorts, k);
        }

        void makeShort(int k, int v) {
            setNumber(lookerShorts, k, v);
        }

        boolean isGone(int k) {
            return ((onHull >> k) & 1) == 0;
        }

        int lookersLeft() {
            return Integer.bitCount(onHull);
        }

        void takeOff(int k) {
            onHull &= ~(1 << k);
        }

        void bringBack(int k) {
            onHull |= 1 << k;
            seenCells |= seenFrom(place);
        }

        void moveTo(int next) {
            place = next;
            seenCells |= seenFrom(place);
            stepsDone++;
        }

        /** LOOKERS are in a row over CELLS in a row: their set, moved on by the PLACE, is the set of these CELLS. */
        private long seenFrom(int ship) {
            return (long) onHull << ship;
        }

        int toldOf(int k, int c) {
            return told(kindOf(k), shortOf(k), heightOf(c));
        }

        static int told(int kind, int shortness, int height) {
            int plain = Math.max(height - shortness, 0);
            if (kind == PLAIN) return plain;
            return kind == DEEP ? plain + 1 : 2 * (plain + 1);
        }

        private int columnOf(int c) {
            return columns > 0 ? c % columns : 0;
        }

        private int rowOf(int c) {
            return columns > 0 ? c / columns : 0;
        }

        /** Whether the ship can be there: all LOOKERS are over CELLS then. */
        private boolean isPlace(int c) {
            return isCell(c) && columnOf(c) + lookers <= columns;
        }

        /** The PLACE behind a STEP, NONE if that can't be. */
        int nextPlace(int ship, int sort) {
            switch (sort) {
                case UP: return rowOf(ship) > 0 ? ship - columns : NONE;
                case RIGHT: return columnOf(ship) + lookers < columns ? ship + 1 : NONE;
                case DOWN: return rowOf(ship) + 1 < rows ? ship + columns : NONE;
                case LEFT: return columnOf(ship) > 0 ? ship - 1 : NONE;
                default: return NONE;
            }
        }

        int ofVoyage(int[] steps, int n, int what) {
            int ship = place;
            long met = 0;
            int together = 0;
            int greatest = NONE;
            for (int p = 0; p < n; p++) {
                ship = nextPlace(ship, numberAt(steps, p));
                if (ship == NONE) return what == 1 ? p : -100 - p;
                met |= seenFrom(ship);
                together += toldTogether(ship);
                greatest = Math.max(greatest, mostTold(ship));
            }
            switch (what) {
                case 0: return Long.bitCount(met & ~seenCells);
                case 2: return together;
                case 3: return greatest;
                case 4: return ship;
                default: return NONE;
            }
        }

        private int toldTogether(int ship) {
            int sum = 0;
            for (int k = 0; k < lookers; k++) {
                if (!isGone(k)) sum += toldOf(k, ship + k);
            }
            return sum;
        }

        private int mostTold(int ship) {
            int greatest = NONE;
            for (int k = 0; k < lookers; k++) {
                if (!isGone(k)) greatest = Math.max(greatest, toldOf(k, ship + k));
            }
            return greatest;
        }

        /**
         * Nothing stands in the way between two PLACES, so the fewest STEPS are those straight
         * across and straight along, and the first such row has them in the order of their sorts.
         */
        int ofWay(int c, int k) {
            int across = fewestAcross(c);
            if (across == NO_WAY) return NONE;
            int along = rowOf(c) - rowOf(place);
            int ups = Math.max(-along, 0);
            int rights = ups + Math.max(across, 0);
            int downs = rights + Math.max(along, 0);
            int all = downs + Math.max(-across, 0);
            if (k < 0) return all;
            if (k < ups) return UP;
            if (k < rights) return RIGHT;
            if (k < downs) return DOWN;
            return k < all ? LEFT : NONE;
        }

        /**
         * Columns to the right (left: below 0) to where the nearest LOOKER is over the CELL's column. A later LOOKER
         * needs the ship further left: of two as near, the one to the right, whose row is the first, is come to first.
         */
        private int fewestAcross(int c) {
            int best = NO_WAY;
            for (int k = 0; k < lookers; k++) {
                int column = columnOf(c) - k;
                if (isGone(k) || column < 0 || column + lookers > columns) continue;
                int across = column - columnOf(place);
                if (Math.abs(across) < Math.abs(best)) best = across;
            }
            return best;
        }

        int ofMost(int n, int k) {
            int row = bestRow(n);
            if (row == NONE || k >= n) return NONE;
            return k < 0 ? gainOf(row, n) : stepOfRow(row, n, k);
        }

        /** Rows of n STEPS are numbered by two bits a STEP, so that a row that comes first has the lesser number. */
        private int bestRow(int n) {
            int best = NONE;
            int bestGain = NONE;
            for (int row = 0; row < (1 << 2 * n); row++) {
                int gain = gainOf(row, n);
                if (gain > bestGain) {
                    best = row;
                    bestGain = gain;
                }
            }
            return best;
        }

        private static int stepOfRow(int row, int n, int k) {
            return (row >> 2 * (n - 1 - k)) & 3;
        }

        /** How many CELLS a row of STEPS has SEEN that were not, NONE if one of them can't be. */
        private int gainOf(int row, int n) {
            int ship = place;
            long met = 0;
            for (int k = 0; k < n; k++) {
                ship = nextPlace(ship, stepOfRow(row, n, k));
                if (ship == NONE) return NONE;
                met |= seenFrom(ship);
            }
            return Long.bitCount(met & ~seenCells);
        }

        /** The CELLS of one FLAT, as a set. Behind a turn that adds none no other does: a turn a CELL is enough. */
        long flatWith(int c) {
            long alike = cellsOfHeight(heightOf(c));
            long flat = 1L << c;
            for (int turn = 0; turn < cells(); turn++) flat |= bordering(flat) & alike;
            return flat;
        }

        private long cellsOfHeight(int height) {
            long bits = 0;
            for (int c = 0; c < cells(); c++) {
                if (heightOf(c) == height) bits |= 1L << c;
            }
            return bits;
        }

        private long bordering(long bits) {
            long notLast = bits & ~cellsOfColumn(columns - 1);
            long notFirst = bits & ~cellsOfColumn(0);
            return (bits << columns) | (bits >>> columns) | (notLast << 1) | (notFirst >>> 1);
        }

        private long cellsOfColumn(int column) {
            long bits = 0;
            for (int row = 0; row < rows; row++) bits |= 1L << (column + columns * row);
            return bits;
        }

        int ofBegins(int[] numbers, int n, int sort, int what) {
            int count = 0;
            int least = NONE;
            int greatest = NONE;
            for (int c = 0; c < cells(); c++) {
                if (!isPlace(c) || !isToldFrom(c, numbers, n, sort)) continue;
                if (count == 0) least = c;
                greatest = c;
                count++;
            }
            if (what == 0) return count;
            return what == 1 ? least : greatest;
        }

        private boolean isToldFrom(int begin, int[] numbers, int n, int sort) {
            int ship = begin;
            for (int row = 0; row < n; row++) {
                if (row > 0) ship = nextPlace(ship, sort);
                if (ship == NONE || !isToldAt(ship, numbers, row * lookers)) return false;
            }
            return true;
        }

        private boolean isToldAt(int ship, int[] numbers, int first) {
            for (int k = 0; k < lookers; k++) {
                if (!isGone(k) && toldOf(k, ship + k) != numberAt(numbers, first + k)) return false;
            }
            return true;
        }

        int places() {
            return (columns - lookers + 1) * rows;
        }

        /** PLACES at which a LOOKER, GONE or not, TELLS v at least. */
        int placesWhereTold(int k, int v) {
            int count = 0;
            for (int c = 0; c < cells(); c++) {
                if (isPlace(c) && toldOf(k, c + k) >= v) count++;
            }
            return count;
        }
    }

    /** What LOOKERS told of HEIGHTS, one behind the other. */
    private static final class Readings {
        private static final int MOST = 8;
        private final int[] lookers = new int[MOST];
        private final int[] heights = new int[MOST];
        private final int[] numbers = new int[MOST];
        private int count;

        int count() {
            return count;
        }

        boolean areFull() {
            return count >= MOST;
        }

        int add(int k, int height, int v) {
            setNumber(lookers, count, k);
            setNumber(heights, count, height);
            setNumber(numbers, count, v);
            return count++;
        }

        void keep(int first) {
            count = first;
        }

        /** Whether all are so if LOOKER k were of this kind and SHORT, all others as they are. */
        boolean areSo(Sea chart, int k, int kind, int shortness) {
            for (int r = 0; r < count; r++) {
                int looker = numberAt(lookers, r);
                int itsKind = looker == k ? kind : chart.kindOf(looker);
                int itsShort = looker == k ? shortness : chart.shortOf(looker);
                if (Sea.told(itsKind, itsShort, numberAt(heights, r)) != numberAt(numbers, r)) return false;
            }
            return true;
        }
    }
}
