/** Promises 22 to 32: sheets, telling, greeting, kinds, trace, fault, many. */
public final class PartsTest {
    private static final String THREE = "f43" + "1224" + "2255" + "9022" + ";p1;d0;g2" + "/01";

    public static void main(String[] args) {
        newRows();
        losing();
        putting();
        cells();
        copying();
        copyRefused();
        telling();
        greeting();
        takenAsAKind();
        traceWraps();
        faultsOfTheLatest();
        howMany();
        Due.end();
    }

    private static void newRows() {
        HullCharts x = new HullCharts();
        for (int k = 0; k <= 3; k++) {
            Due.due("sheet " + k, x.sheet(k, 2, 60), 1);
            Due.due("the last cell", x.cell(k, 59, 2), 0);
            Due.due("put", x.put(k, 59, 8), 1);
            Due.due("a new row", x.sheet(k, 2, 60), 1);
            Due.due("is 0 again", x.cell(k, 59, 2), 0);
            Due.due("a row of none", x.sheet(k, 0, 0), 1);
            Due.due("has no cell", x.put(k, 0, 1), -13);
            Due.due("but is there", x.lose(k), 1);
        }
        Due.due("no sheet", x.sheet(4, 3, 61), HullCharts.UNKNOWN);
        Due.due("no sheet", x.sheet(-1, 0, -1), HullCharts.UNKNOWN);
        Due.due("lane", x.sheet(0, 3, 1), HullCharts.OUTSIDE);
        Due.due("lane ahead of size", x.sheet(0, -1, -1), HullCharts.OUTSIDE);
        Due.due("too long", x.sheet(0, 0, 61), HullCharts.OUTSIDE);
        Due.due("refused", x.fault(), 0);
        Due.due("size", x.sheet(0, 0, -1), -14);
        Due.due("fault", x.fault(), 4);
        Due.due("size", x.sheet(0, 0, Integer.MIN_VALUE), -14);
        Due.due("nothing is changed", x.lose(0), 0);
    }

    private static void losing() {
        HullCharts x = new HullCharts();
        Due.due("nothing", x.lose(0), 0);
        Due.due("sheet", x.sheet(0, 0, 5), 1);
        Due.due("lose", x.lose(0), 1);
        Due.due("nothing again", x.lose(0), 0);
        Due.due("put", x.put(0, 0, 1), -11);
        Due.due("no sheet", x.lose(4), HullCharts.UNKNOWN);
        Due.due("no sheet", x.lose(-1), HullCharts.UNKNOWN);
        Due.due("it names no faults", x.fault(), 1);
        Due.lay(x, 0, 2, 5);
        Due.due("lose", x.lose(0), 1);
        Due.due("sheet", x.sheet(0, 2, 1), 1);
        Due.due("its cells are 0", x.cell(0, 0, 2), 0);
    }

    private static void putting() {
        HullCharts x = new HullCharts();
        int[] given = {127, 128, 255, 256, -129, 32767, 32768, 65535, -32769, 70001, Integer.MAX_VALUE, Integer.MIN_VALUE};
        int[] bytes = {127, -128, -1, 0, 127, -1, 0, -1, -1, 113, -1, 0};
        int[] shorts = {127, 128, 255, 256, -129, 32767, -32768, -1, 32767, 4465, -1, 0};
        for (int lane = 0; lane <= 2; lane++) {
            Due.lay(x, lane, lane, given);
            for (int i = 0; i < given.length; i++) {
                int want = lane == 0 ? bytes[i] : lane == 1 ? shorts[i] : given[i];
                Due.due(given[i] + " in lane " + lane, x.cell(lane, i, lane), want);
            }
        }
        Due.due("no sheet", x.put(4, -1, 0), HullCharts.UNKNOWN);
        Due.due("no sheet", x.put(-1, 0, 0), HullCharts.UNKNOWN);
        Due.due("null ahead of index", x.put(3, -1, 0), -11);
        Due.due("fault", x.fault(), 1);
        Due.due("index", x.put(0, -1, 0), -13);
        Due.due("fault", x.fault(), 3);
        Due.due("index", x.put(0, given.length, 0), -13);
        Due.due("index", x.put(0, Integer.MAX_VALUE, 0), -13);
        Due.due("index", x.put(0, Integer.MIN_VALUE, 0), -13);
    }

    private static void cells() {
        HullCharts x = new HullCharts();
        Due.due("nothing is no cast", x.cell(0, -1, 1), HullCharts.LOST);
        Due.due("fault", x.fault(), 1);
        Due.lay(x, 0, 1, 5, -6);
        Due.due("cell", x.cell(0, 1, 1), -6);
        Due.due("came to none", x.fault(), 0);
        Due.due("cast ahead of index", x.cell(0, 2, 0), HullCharts.LOST);
        Due.due("fault", x.fault(), 2);
        Due.due("index", x.cell(0, 2, 1), HullCharts.LOST);
        Due.due("fault", x.fault(), 3);
        Due.due("lane", x.cell(0, 0, 3), HullCharts.LOST);
        Due.due("refused", x.fault(), 0);
        Due.due("index", x.cell(0, -1, 1), HullCharts.LOST);
        Due.due("fault", x.fault(), 3);
        Due.due("no sheet", x.cell(4, 0, 1), HullCharts.LOST);
        Due.due("refused", x.fault(), 0);
        Due.due("no sheet", x.cell(-1, 0, 1), HullCharts.LOST);
        Due.due("lane", x.cell(0, 0, -1), HullCharts.LOST);
        Due.due("refused", x.fault(), 0);
    }

    private static void rowIs(HullCharts x, int k, int lane, int... want) {
        for (int i = 0; i < want.length; i++) Due.due("cell " + i + " of " + k, x.cell(k, i, lane), want[i]);
    }

    private static void copying() {
        HullCharts x = new HullCharts();
        Due.lay(x, 0, 1, 1, 2, 3, 4, 5);
        Due.lay(x, 1, 1, 9, 9, 9, 9);
        Due.due("to another", x.copy(0, 1, 1, 2, 2), 2);
        rowIs(x, 1, 1, 9, 9, 2, 3);
        rowIs(x, 0, 1, 1, 2, 3, 4, 5);
        Due.due("on to itself", x.copy(0, 0, 0, 1, 4), 4);
        rowIs(x, 0, 1, 1, 1, 2, 3, 4);
        Due.due("back to itself", x.copy(0, 1, 0, 0, 4), 4);
        rowIs(x, 0, 1, 1, 2, 3, 4, 4);
        Due.due("none at the ends", x.copy(0, 5, 1, 4, 0), 0);
        Due.due("came to none", x.fault(), 0);
        int[] sixty = new int[60];
        for (int p = 0; p < 60; p++) sixty[p] = p - 30;
        Due.lay(x, 2, 0, sixty);
        Due.due("sheet", x.sheet(3, 0, 60), 1);
        Due.due("all", x.copy(2, 0, 3, 0, 60), 60);
        rowIs(x, 3, 0, sixty);
    }

    private static void copyRefused() {
        HullCharts x = new HullCharts();
        Due.lay(x, 0, 1, 1, 2, 3);
        Due.lay(x, 1, 1, 4, 5);
        Due.lay(x, 2, 2, 6, 7);
        Due.due("no sheet", x.copy(4, 0, 0, 0, 0), HullCharts.UNKNOWN);
        Due.due("no sheet", x.copy(0, 0, -1, 0, 0), HullCharts.UNKNOWN);
        Due.due("no sheet ahead of null", x.copy(3, 0, 4, 0, 0), HullCharts.UNKNOWN);
        Due.due("the first", x.copy(3, 0, 0, 0, -1), -11);
        Due.due("the other", x.copy(0, -1, 3, 0, 1), -11);
        Due.due("fault", x.fault(), 1);
        Due.due("cast ahead of index", x.copy(0, 9, 2, 9, -1), -12);
        Due.due("fault", x.fault(), 2);
        Due.refusedAll("index", new int[] {x.copy(0, -1, 1, 0, 1), x.copy(0, 0, 1, -1, 1), x.copy(0, 0, 1, 0, -1),
            x.copy(0, 2, 1, 0, 2), x.copy(0, 0, 1, 1, 2), x.copy(0, 4, 1, 0, 0), x.copy(0, 0, 1, 3, 0),
            x.copy(0, 1, 1, 1, Integer.MAX_VALUE), x.copy(0, Integer.MAX_VALUE, 1, 1, 1), x.copy(0, 0, 1, 0, Integer.MIN_VALUE)}, -13);
        Due.due("fault", x.fault(), 3);
        rowIs(x, 0, 1, 1, 2, 3);
        rowIs(x, 1, 1, 4, 5);
    }

    private static void telling() {
        HullCharts x = Due.with(THREE);
        Due.due("PLAIN", x.tell(0), 1);
        Due.due("trace", x.trace(), 1);
        Due.due("DEEP", x.tell(1), 100);
        Due.due("trace", x.trace(), (1 * 31 + 2) * 31 + 1);
        HullCharts y = Due.with(THREE);
        Due.due("GRAND", y.tell(2), 104);
        Due.due("trace", y.trace(), ((3 * 31 + 2) * 31 + 1) * 31 + 1);
        Due.due("dim", y.dim(2, 9), 2);
        Due.due("GRAND", y.tell(2), 118);
        Due.due("gone", y.scrape(2), 2);
        Due.due("all the same", y.tell(2), 118);
        int trace = y.trace();
        Due.due("no looker", y.tell(3), HullCharts.UNKNOWN);
        Due.due("no looker", y.tell(-1), HullCharts.UNKNOWN);
        Due.due("leaves nothing", y.trace(), trace);
    }

    private static void greeting() {
        HullCharts x = Due.with(THREE);
        Due.due("PLAIN", x.greet(0), 0);
        Due.due("trace", x.trace(), 4);
        Due.due("DEEP", x.greet(1), 1);
        Due.due("trace", x.trace(), 4 * 31 + 4);
        Due.due("GRAND", x.greet(2), 90);
        Due.due("trace", x.trace(), (4 * 31 + 4) * 31 + 5);
        Due.due("no looker", x.greet(3), HullCharts.UNKNOWN);
        Due.due("no looker", x.greet(-1), HullCharts.UNKNOWN);
        Due.due("leaves nothing", x.trace(), (4 * 31 + 4) * 31 + 5);
    }

    private static void takenAsAKind() {
        HullCharts x = Due.with(THREE);
        for (int k = 0; k < 3; k++) {
            for (int kind = 0; kind < 3; kind++) {
                Due.due(k + " as " + kind, x.as(k, kind), kind <= k ? 1 : -12);
                Due.due("fault", x.fault(), kind <= k ? 0 : 2);
            }
        }
        Due.due("cast", x.as(0, 2), -12);
        Due.due("no looker", x.as(3, 3), HullCharts.UNKNOWN);
        Due.due("refused", x.fault(), 0);
        Due.due("no looker", x.as(-1, 0), HullCharts.UNKNOWN);
        Due.due("kind", x.as(0, 3), HullCharts.OUTSIDE);
        Due.due("kind", x.as(0, -1), HullCharts.OUTSIDE);
        Due.due("no trace", x.trace(), 0);
    }

    private static void traceWraps() {
        HullCharts x = Due.with(THREE);
        int want = 0;
        for (int turn = 0; turn < 20; turn++) {
            Due.due("greet", x.greet(2), 90);
            want = want * 31 + 5;
            Due.due("trace", x.trace(), want);
        }
    }

    private static void faultsOfTheLatest() {
        HullCharts x = new HullCharts();
        Due.due("ahead of any", x.fault(), 0);
        Due.due("size", x.sheet(0, 0, -1), -14);
        Due.due("fault", x.fault(), 4);
        Due.due("names none", x.lose(0), 0);
        Due.due("names none", x.many(0), 0);
        Due.due("names none", x.step(0), HullCharts.STATE);
        Due.due("names none", x.way(0, 0), HullCharts.UNKNOWN);
        Due.due("names none", x.most(1, 1), HullCharts.STATE);
        Due.due("names none", x.odds(0, 0, 0), HullCharts.LOST);
        Due.due("names none", x.tell(0), HullCharts.UNKNOWN);
        Due.due("fault", x.fault(), 4);
        Due.due("asked twice", x.fault(), 4);
        Due.due("refused", x.voyage(0, 0, 0, 0, 0), HullCharts.STATE);
        Due.due("fault", x.fault(), 0);
        Due.due("null", x.run(0, 0, 0, 1, 0), -11);
        Due.due("fault", x.fault(), 1);
        Due.due("refused", x.begun(0, 0, 0, 1, 0, 0), HullCharts.STATE);
        Due.due("fault", x.fault(), 0);
        Due.due("null", x.copy(0, 0, 0, 0, 0), -11);
        Due.due("fault", x.fault(), 1);
        Due.due("refused", x.copy(0, 0, 4, 0, 0), HullCharts.UNKNOWN);
        Due.due("fault", x.fault(), 0);
        Due.due("null", x.copy(0, 0, 0, 0, 0), -11);
        Due.due("refused", x.as(0, 0), HullCharts.UNKNOWN);
        Due.due("fault", x.fault(), 0);
        Due.due("null", x.put(0, 0, 0), -11);
        Due.due("a new row", x.sheet(0, 0, 1), 1);
        Due.due("came to none", x.fault(), 0);
        Due.due("index", x.put(0, 1, 0), -13);
        Due.due("a text that is none", x.sea(0, 0, 0, 1), -100);
        Due.due("came to none", x.fault(), 0);
        Due.due("index", x.put(0, 1, 0), -13);
        Due.due("put", x.put(0, 0, 0), 1);
        Due.due("came to none", x.fault(), 0);
    }

    private static void howMany() {
        HullCharts x = Due.with(THREE);
        Due.due("down", x.step(2), 3);
        Due.due("right", x.step(1), 1);
        Due.due("can't be", x.step(1), HullCharts.STATE);
        Due.due("reading", x.reading(0, 0, 0), 0);
        int[] want = {4, 3, 3, 9, 2, 7, 1};
        for (int what = 0; what < want.length; what++) Due.due("many " + what, x.many(what), want[what]);
        Due.due("what", x.many(7), HullCharts.OUTSIDE);
        Due.due("what", x.many(-1), HullCharts.OUTSIDE);
        Due.due("what, without a sea", new HullCharts().many(7), HullCharts.OUTSIDE);
    }
}
