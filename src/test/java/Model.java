import java.util.ArrayDeque;
import java.util.ArrayList;
import java.util.Arrays;
import java.util.HashSet;
import java.util.List;
import java.util.Set;
import java.util.regex.Matcher;
import java.util.regex.Pattern;

/**
 * The document read a second time, without care for room or time: searches where the program reckons,
 * so that a slip in one is told by the other.
 */
final class Model {
    private static final long LOST = Long.MIN_VALUE;
    private static final int[] DOWNWARD = {-1, 0, 1, 0};
    private static final int[] RIGHTWARD = {0, 1, 0, -1};
    private static final List<Pattern> TEXTS = texts();

    private final Object[] sheets = new Object[4];
    private int[][] floor = new int[0][0];
    private final List<int[]> lookers = new ArrayList<>();
    private int row;
    private int column;
    private int steps;
    private Set<Integer> seen = new HashSet<>();
    private final List<int[]> readings = new ArrayList<>();
    private int trace;
    private int fault;

    private static List<Pattern> texts() {
        List<Pattern> all = new ArrayList<>();
        for (int wide = 2; wide <= 6; wide++) {
            for (int rows = 2; rows <= 6; rows++) {
                for (int many = 1; many <= Math.min(4, wide); many++) {
                    all.add(Pattern.compile("f" + wide + rows + "[0-9]{" + wide * rows + "}(;[pdg][0-9]){" + many + "}/[0-"
                        + (wide - many) + "][0-" + (rows - 1) + "]"));
                }
            }
        }
        return all;
    }

    private static boolean goesOn(String start, boolean whole) {
        for (Pattern text : TEXTS) {
            Matcher matcher = text.matcher(start);
            if (matcher.matches() || !whole && matcher.hitEnd()) return true;
        }
        return false;
    }

    private static int firstFault(String text) {
        for (int n = 1; n <= text.length(); n++) {
            if (!goesOn(text.substring(0, n), false)) return n - 1;
        }
        return goesOn(text, true) ? -1 : text.length();
    }

    private static int lane(Object sheet) {
        return sheet instanceof byte[] ? 0 : sheet instanceof short[] ? 1 : 2;
    }

    private static int length(Object sheet) {
        return java.lang.reflect.Array.getLength(sheet);
    }

    private static int number(Object sheet, int i) {
        return ((Number) java.lang.reflect.Array.get(sheet, i)).intValue();
    }

    private static void write(Object sheet, int i, int v) {
        if (sheet instanceof byte[] bytes) bytes[i] = (byte) v;
        if (sheet instanceof short[] shorts) shorts[i] = (short) v;
        if (sheet instanceof int[] ints) ints[i] = v;
    }

    private static boolean known(int k) {
        return k >= 0 && k <= 3;
    }

    private static boolean out(int v, int least, int most) {
        return v < least || v > most;
    }

    private int fall(int which) {
        fault = which;
        return -10 - which;
    }

    private int faultOf(int k, int lane, int i, long n) {
        if (sheets[k] != null && lane(sheets[k]) != lane) return 2;
        if (sheets[k] == null) return 1;
        if (n < 0) return 4;
        return i < 0 || i + n > length(sheets[k]) ? 3 : 0;
    }

    private int[] row(int k, int i, int n) {
        int[] cells = new int[n];
        for (int p = 0; p < n; p++) cells[p] = number(sheets[k], i + p);
        return cells;
    }

    private boolean none() {
        return floor.length == 0;
    }

    private int wide() {
        return none() ? 0 : floor[0].length;
    }

    private boolean noCell(int cell) {
        return cell < 0 || cell >= wide() * floor.length;
    }

    private boolean noLooker(int k) {
        return k < 0 || k >= lookers.size();
    }

    private boolean fits(int atRow, int atColumn) {
        for (int k = 0; k < lookers.size(); k++) {
            if (out(atRow, 0, floor.length - 1) || out(atColumn + k, 0, wide() - 1)) return false;
        }
        return true;
    }

    private static int tells(int kind, int shorts, int height) {
        int plain = height > shorts ? height - shorts : 0;
        int deep = plain + 1;
        return kind == 0 ? plain : kind == 1 ? deep : deep * 2;
    }

    private int tellsAt(int k, int atRow, int atColumn) {
        return tells(lookers.get(k)[0], lookers.get(k)[1], floor[atRow][atColumn + k]);
    }

    private Set<Integer> over(int atRow, int atColumn) {
        Set<Integer> cells = new HashSet<>();
        for (int k = 0; k < lookers.size(); k++) {
            if (lookers.get(k)[2] == 0) cells.add(wide() * atRow + atColumn + k);
        }
        return cells;
    }

    int sea(int sheet, int lane, int i, int n) {
        fault = 0;
        if (!known(sheet)) return -1;
        if (out(lane, 0, 2)) return -2;
        int which = faultOf(sheet, lane, i, n);
        if (which != 0) return fall(which);
        StringBuilder codes = new StringBuilder();
        for (int code : row(sheet, i, n)) codes.append(out(code, 33, 126) ? '~' : (char) code);
        String text = codes.toString();
        int wrong = firstFault(text);
        if (wrong >= 0) return -100 - wrong;
        makeSea(text);
        return lookers.size();
    }

    private void makeSea(String text) {
        floor = new int[text.charAt(2) - '0'][text.charAt(1) - '0'];
        for (int cell = 0; cell < wide() * floor.length; cell++) floor[cell / wide()][cell % wide()] = text.charAt(3 + cell) - '0';
        lookers.clear();
        String[] parts = text.substring(3 + wide() * floor.length, text.indexOf('/')).split(";");
        for (int k = 1; k < parts.length; k++) lookers.add(new int[] {"pdg".indexOf(parts[k].charAt(0)), parts[k].charAt(1) - '0', 0});
        column = text.charAt(text.length() - 2) - '0';
        row = text.charAt(text.length() - 1) - '0';
        steps = 0;
        readings.clear();
        seen = over(row, column);
    }

    int ofLooker(int k, int what) {
        if (noLooker(k)) return -1;
        if (out(what, 0, 4)) return -2;
        if (what <= 2) return lookers.get(k)[what];
        return what == 3 ? wide() * row + column + k : tellsAt(k, row, column);
    }

    int height(int cell) {
        return noCell(cell) ? -1 : floor[cell / wide()][cell % wide()];
    }

    int heap(int cell, int v) {
        if (noCell(cell)) return -1;
        if (out(v, 0, 9)) return -2;
        int was = height(cell);
        floor[cell / wide()][cell % wide()] = v;
        return was;
    }

    int dim(int k, int v) {
        if (noLooker(k)) return -1;
        if (out(v, 0, 9)) return -2;
        int was = lookers.get(k)[1];
        lookers.get(k)[1] = v;
        return was;
    }

    private int becomes(int k, int gone) {
        if (noLooker(k)) return -1;
        if (lookers.get(k)[2] == gone) return -3;
        lookers.get(k)[2] = gone;
        seen.addAll(over(row, column));
        return (int) lookers.stream().filter(looker -> looker[2] == 0).count();
    }

    int scrape(int k) {
        return becomes(k, 1);
    }

    int grow(int k) {
        return becomes(k, 0);
    }

    long seen() {
        if (none()) return LOST;
        long bits = 0;
        for (int cell : seen) bits += 1L << cell;
        return bits;
    }

    int step(int sort) {
        if (out(sort, 0, 3)) return -2;
        if (none() || !fits(row + DOWNWARD[sort], column + RIGHTWARD[sort])) return -3;
        row += DOWNWARD[sort];
        column += RIGHTWARD[sort];
        steps++;
        int before = seen.size();
        seen.addAll(over(row, column));
        return seen.size() - before;
    }

    int voyage(int sheet, int lane, int i, int n, int what) {
        fault = 0;
        if (!known(sheet)) return -1;
        if (out(lane, 0, 2) || out(n, 0, 40) || out(what, 0, 4)) return -2;
        if (none()) return -3;
        int which = faultOf(sheet, lane, i, n);
        if (which != 0) return fall(which);
        int[] sorts = row(sheet, i, n);
        for (int sort : sorts) if (out(sort, 0, 3)) return -2;
        return told(sorts, what);
    }

    private int told(int[] sorts, int what) {
        int r = row;
        int c = column;
        Set<Integer> met = new HashSet<>(seen);
        List<Integer> numbers = new ArrayList<>();
        for (int p = 0; p < sorts.length; p++) {
            r += DOWNWARD[sorts[p]];
            c += RIGHTWARD[sorts[p]];
            if (!fits(r, c)) return what == 1 ? p : -100 - p;
            met.addAll(over(r, c));
            for (int k = 0; k < lookers.size(); k++) if (lookers.get(k)[2] == 0) numbers.add(tellsAt(k, r, c));
        }
        int sum = numbers.stream().mapToInt(Integer::intValue).sum();
        int most = numbers.stream().mapToInt(Integer::intValue).max().orElse(-9);
        return new int[] {met.size() - seen.size(), -9, sum, most, wide() * r + c}[what];
    }

    int way(int cell, int k) {
        if (noCell(cell)) return -1;
        if (out(k, -1, 9)) return -2;
        ArrayDeque<int[]> rows = new ArrayDeque<>();
        Set<Integer> been = new HashSet<>();
        rows.add(new int[0]);
        while (!rows.isEmpty()) {
            int[] sorts = rows.poll();
            int place = told(sorts, 4);
            if (place < 0 || !been.add(place)) continue;
            if (over(place / wide(), place % wide()).contains(cell)) return k < 0 ? sorts.length : k < sorts.length ? sorts[k] : -9;
            for (int sort = 0; sort < 4; sort++) rows.add(longer(sorts, sort));
        }
        return -9;
    }

    private static int[] longer(int[] sorts, int sort) {
        int[] more = Arrays.copyOf(sorts, sorts.length + 1);
        more[sorts.length] = sort;
        return more;
    }

    int most(int n, int k) {
        if (out(n, 1, 5) || out(k, -1, 4)) return -2;
        if (none()) return -3;
        int[] best = bestBehind(new int[0], n);
        if (best == null) return -9;
        return k < 0 ? told(best, 0) : k < n ? best[k] : -9;
    }

    private int[] bestBehind(int[] sorts, int n) {
        if (told(sorts, 1) != -9) return null;
        if (sorts.length == n) return sorts;
        int[] best = null;
        for (int sort = 0; sort < 4; sort++) {
            int[] other = bestBehind(longer(sorts, sort), n);
            if (other != null && (best == null || told(other, 0) > told(best, 0))) best = other;
        }
        return best;
    }

    int flat(int cell) {
        if (noCell(cell)) return -1;
        Set<Integer> together = new HashSet<>();
        spread(together, cell / wide(), cell % wide(), height(cell));
        return together.size();
    }

    private void spread(Set<Integer> together, int r, int c, int height) {
        if (out(r, 0, floor.length - 1) || out(c, 0, wide() - 1) || floor[r][c] != height || !together.add(wide() * r + c)) return;
        for (int sort = 0; sort < 4; sort++) spread(together, r + DOWNWARD[sort], c + RIGHTWARD[sort], height);
    }

    int begun(int sheet, int lane, int i, int n, int sort, int what) {
        fault = 0;
        if (!known(sheet)) return -1;
        if (out(lane, 0, 2) || out(n, 1, 6) || out(sort, 0, 3) || out(what, 0, 2)) return -2;
        if (none()) return -3;
        int which = faultOf(sheet, lane, i, (long) n * lookers.size());
        if (which != 0) return fall(which);
        int[] numbers = row(sheet, i, n * lookers.size());
        List<Integer> begins = new ArrayList<>();
        for (int r = 0; r < floor.length; r++) {
            for (int c = 0; c < wide(); c++) if (couldBegin(r, c, numbers, n, sort)) begins.add(wide() * r + c);
        }
        if (what == 0) return begins.size();
        if (begins.isEmpty()) return -9;
        return what == 1 ? begins.get(0) : begins.get(begins.size() - 1);
    }

    private boolean couldBegin(int r, int c, int[] numbers, int n, int sort) {
        for (int p = 0; p < n; p++) {
            int atRow = r + p * DOWNWARD[sort];
            int atColumn = c + p * RIGHTWARD[sort];
            if (!fits(atRow, atColumn)) return false;
            for (int k = 0; k < lookers.size(); k++) {
                if (lookers.get(k)[2] == 0 && tellsAt(k, atRow, atColumn) != numbers[p * lookers.size() + k]) return false;
            }
        }
        return true;
    }

    int run(int sheet, int lane, int i, int n, int what) {
        fault = 0;
        if (!known(sheet)) return -1;
        if (out(lane, 0, 2) || out(n, 1, 40) || out(what, 0, 1)) return -2;
        int which = faultOf(sheet, lane, i, n);
        if (which != 0) return fall(which);
        int[] numbers = row(sheet, i, n);
        for (int length = 1; true; length++) {
            int[] again = new int[n + 1];
            for (int p = 0; p <= n; p++) again[p] = numbers[p % length];
            if (Arrays.equals(Arrays.copyOf(again, n), numbers)) return what == 0 ? length : again[n];
        }
    }

    int reading(int k, int height, int v) {
        if (noLooker(k)) return -1;
        if (out(height, 0, 9) || out(v, 0, 20)) return -2;
        if (readings.size() == 8) return -4;
        readings.add(new int[] {k, height, v});
        return readings.size() - 1;
    }

    int back(int k) {
        if (out(k, 0, readings.size())) return -2;
        for (int turn = 0; turn < k; turn++) readings.remove(readings.size() - 1);
        return readings.size();
    }

    private int open(int k, int part, int most) {
        if (noLooker(k)) return -1;
        int was = lookers.get(k)[part];
        int bits = 0;
        for (int v = 0; v <= most; v++) {
            lookers.get(k)[part] = v;
            boolean so = true;
            for (int[] one : readings) so &= tells(lookers.get(one[0])[0], lookers.get(one[0])[1], one[1]) == one[2];
            if (so) bits += 1 << v;
        }
        lookers.get(k)[part] = was;
        return bits;
    }

    int shorts(int k) {
        return open(k, 1, 9);
    }

    int kinds(int k) {
        return open(k, 0, 2);
    }

    long odds(int k, int v, int which) {
        if (noLooker(k) || out(v, 0, 20) || out(which, 0, 1)) return LOST;
        int upper = 0;
        int lower = 0;
        for (int r = 0; r < floor.length; r++) {
            for (int c = 0; c < wide(); c++) {
                if (!fits(r, c)) continue;
                lower++;
                if (tellsAt(k, r, c) >= v) upper++;
            }
        }
        int common = java.math.BigInteger.valueOf(upper).gcd(java.math.BigInteger.valueOf(lower)).intValue();
        return (which == 0 ? upper : lower) / common;
    }

    int sheet(int k, int lane, int n) {
        fault = 0;
        if (!known(k)) return -1;
        if (out(lane, 0, 2) || n > 60) return -2;
        if (n < 0) return fall(4);
        sheets[k] = lane == 0 ? new byte[n] : lane == 1 ? new short[n] : new int[n];
        return 1;
    }

    int lose(int k) {
        if (!known(k)) return -1;
        int had = sheets[k] == null ? 0 : 1;
        sheets[k] = null;
        return had;
    }

    int put(int k, int i, int v) {
        fault = 0;
        if (!known(k)) return -1;
        if (sheets[k] == null) return fall(1);
        if (out(i, 0, length(sheets[k]) - 1)) return fall(3);
        write(sheets[k], i, v);
        return 1;
    }

    long cell(int k, int i, int lane) {
        fault = 0;
        if (!known(k) || out(lane, 0, 2)) return LOST;
        fault = faultOf(k, lane, i, 1);
        return fault != 0 ? LOST : number(sheets[k], i);
    }

    int copy(int k, int i, int other, int j, int n) {
        fault = 0;
        if (!known(k) || !known(other)) return -1;
        if (sheets[k] == null || sheets[other] == null) return fall(1);
        if (sheets[k].getClass() != sheets[other].getClass()) return fall(2);
        if (i < 0 || j < 0 || n < 0 || (long) i + n > length(sheets[k]) || (long) j + n > length(sheets[other])) return fall(3);
        System.arraycopy(sheets[k], i, sheets[other], j, n);
        return n;
    }

    private void leave(int... bodies) {
        for (int body : bodies) trace = trace * 31 + body;
    }

    int tell(int k) {
        if (noLooker(k)) return -1;
        int shorts = lookers.get(k)[1];
        switch (lookers.get(k)[0]) {
            case 0:
                leave(1);
                return shorts;
            case 1:
                leave(2, 1);
                return shorts + 100;
            default:
                leave(3, 2, 1, 1);
                return 2 * shorts + 100;
        }
    }

    int greet(int k) {
        if (noLooker(k)) return -1;
        leave(lookers.get(k)[0] == 2 ? 5 : 4);
        return lookers.get(k)[0] == 2 ? 90 : k;
    }

    int as(int k, int kind) {
        fault = 0;
        if (noLooker(k)) return -1;
        if (out(kind, 0, 2)) return -2;
        return lookers.get(k)[0] < kind ? fall(2) : 1;
    }

    int trace() {
        return trace;
    }

    int fault() {
        return fault;
    }

    int many(int what) {
        if (out(what, 0, 6)) return -2;
        return new int[] {wide(), floor.length, lookers.size(), wide() * row + column, steps, seen.size(), readings.size()}[what];
    }
}
