/** Promise 2: the TEXT of a SEA at each of its places, too short, too long, and in each LANE. */
public final class TextEdgesTest {
    private static final int[] CODES = {Integer.MIN_VALUE, -49, -1, 0, 9, 10, 32, 46, 47, 48, 49, 50, 51, 52, 53, 54, 55, 56, 57, 58,
        59, 60, 68, 70, 71, 80, 99, 100, 101, 102, 103, 104, 111, 112, 113, 122, 48 + 256, 102 + 256, 59 + 256, 50 - 256,
        48 + 65536, 112 + 65536, 47 - 65536, Integer.MAX_VALUE};

    private TextEdgesTest() {
    }

    public static void main(String[] args) {
        eachShapeIsTaken();
        eachWidthAndItsNeighbours();
        eachLengthAndItsNeighbours();
        aLookerTooManyForTheWidth();
        aLookerTooManyForAny();
        noLookers();
        eachPlaceOfEachShape();
        cutAtEachLength();
        tooLongByOne();
        tooLongUpToTheSheetsEnd();
        theEmptyText();
        theColumnOfEachShape();
        theRowOfEachShape();
        eachHeight();
        eachShort();
        eachKind();
        thePlaceIsToldFromItsOwnStart();
        whatStandsAheadAndBehindCountsForNothing();
        aTextAtTheEndOfTheLongestSheet();
        codesAreCutToTheirLane();
        codesThatAreNotCut();
        codesBelowZero();
        theFirstOfTwoFaults();
        seaIsOneLaneAtATime();
        wideIsReadAheadOfLong();
        Due.end();
    }

    private static int mostLookers(int wide) {
        return wide < 4 ? wide : 4;
    }

    private static String text(int wide, int rows, int lookers) {
        return "f" + wide + rows + "7".repeat(wide * rows) + ";d3".repeat(lookers) + "/0" + (rows - 1);
    }

    private interface Shape {
        void take(int wide, int rows, int lookers);
    }

    private static void eachShape(Shape shape) {
        for (int wide = 2; wide <= 6; wide++) {
            for (int rows = 2; rows <= 6; rows++) {
                for (int lookers = 1; lookers <= mostLookers(wide); lookers++) shape.take(wide, rows, lookers);
            }
        }
    }

    private static long sea(String text) {
        return new Ship().text(0, 2, text).ask("sea", 0, 2, 0, text.length());
    }

    private static void wrongAt(String text, int place) {
        Ship ship = new Ship().text(0, 2, text);
        ship.due("sea 0 2 0 " + text.length(), -100 - place, 0);
        ship.due("many 0", 0).due("many 2", 0).due("seen", HullCharts.LOST);
    }

    private static void taken(String text, int lookers) {
        Ship ship = new Ship().text(0, 2, text);
        ship.due("sea 0 2 0 " + text.length(), lookers, 0).due("many 2", lookers);
    }

    private static void eachShapeIsTaken() {
        eachShape((wide, rows, lookers) -> {
            Ship ship = Ship.over(text(wide, rows, lookers));
            ship.due("many 0", wide).due("many 1", rows).due("many 2", lookers).due("many 3", wide * (rows - 1));
            ship.due("many 4", 0).due("many 5", lookers).due("many 6", 0);
            ship.due("height " + (wide * rows - 1), 7).due("height " + wide * rows, HullCharts.UNKNOWN);
            ship.due("ofLooker " + (lookers - 1) + " 1", 3).due("ofLooker " + lookers + " 1", HullCharts.UNKNOWN);
        });
    }

    private static void eachWidthAndItsNeighbours() {
        wrongAt("f022" + "7".repeat(20), 1);
        wrongAt("f122" + "7".repeat(20), 1);
        taken(text(2, 2, 1), 1);
        taken(text(6, 2, 1), 1);
        wrongAt("f722" + "7".repeat(20), 1);
        wrongAt("f922" + "7".repeat(20), 1);
        wrongAt("f/22" + "7".repeat(20), 1);
        wrongAt("f:22" + "7".repeat(20), 1);
    }

    private static void eachLengthAndItsNeighbours() {
        wrongAt("f202" + "7".repeat(20), 2);
        wrongAt("f212" + "7".repeat(20), 2);
        taken(text(2, 6, 1), 1);
        wrongAt("f272" + "7".repeat(20), 2);
        wrongAt("f292" + "7".repeat(20), 2);
        wrongAt("f2/2" + "7".repeat(20), 2);
        wrongAt("f2:2" + "7".repeat(20), 2);
    }

    private static void aLookerTooManyForTheWidth() {
        taken(text(2, 2, 2), 2);
        wrongAt(text(2, 2, 3), 3 + 4 + 6);
        taken(text(3, 2, 3), 3);
        wrongAt(text(3, 2, 4), 3 + 6 + 9);
    }

    private static void aLookerTooManyForAny() {
        for (int wide = 4; wide <= 6; wide++) {
            taken(text(wide, 2, 4), 4);
            wrongAt(text(wide, 2, 5), 3 + 2 * wide + 12);
        }
    }

    private static void noLookers() {
        wrongAt("f227777/00", 7);
        wrongAt("f227777/", 7);
        wrongAt("f227777;/00", 8);
    }

    /** What is due for one code in one place of such a TEXT; that the TEXT goes on to another shape is asked elsewhere. */
    private static int dueFor(int code, int p, int wide, int rows, int lookers) {
        int first = 3 + wide * rows;
        int tail = first + 3 * lookers;
        if (p == 0) return code == 'f' ? lookers : -100;
        if (p < first) return code >= '0' && code <= '9' ? lookers : -100 - p;
        if (p == tail) return code == '/' ? lookers : code == ';' && lookers < mostLookers(wide) ? -100 - p - 1 : -100 - p;
        if (p == tail + 1) return code >= '0' && code <= '0' + wide - lookers ? lookers : -100 - p;
        if (p == tail + 2) return code >= '0' && code <= '0' + rows - 1 ? lookers : -100 - p;
        if (p > tail + 2) return -100 - p;
        switch ((p - first) % 3) {
            case 0: return code == ';' ? lookers : code == '/' && p > first ? -100 - p - 1 : -100 - p;
            case 1: return code == 'p' || code == 'd' || code == 'g' ? lookers : -100 - p;
            default: return code >= '0' && code <= '9' ? lookers : -100 - p;
        }
    }

    private static void eachPlaceOfEachShape() {
        eachShape((wide, rows, lookers) -> {
            int length = text(wide, rows, lookers).length();
            for (int p = 0; p < length; p++) {
                if (p != 1 && p != 2) onePlace(wide, rows, lookers, p);
            }
        });
    }

    private static void onePlace(int wide, int rows, int lookers, int p) {
        String text = text(wide, rows, lookers);
        Ship ship = new Ship().text(1, 2, text);
        for (int code : CODES) {
            Due.due("put", ship.ask("put", 1, p, code), 1);
            Due.due(text + " with " + code + " in place " + p, ship.ask("sea", 1, 2, 0, text.length()), dueFor(code, p, wide, rows, lookers));
        }
        Due.due("put", ship.ask("put", 1, p, text.charAt(p)), 1);
        Due.due(text, ship.ask("sea", 1, 2, 0, text.length()), lookers);
    }

    private static void cutAtEachLength() {
        eachShape((wide, rows, lookers) -> {
            String text = text(wide, rows, lookers);
            Ship ship = new Ship().text(0, 0, text);
            for (int n = 0; n < text.length(); n++) ship.due("sea 0 0 0 " + n, -100 - n, 0).due("many 2", 0);
            ship.due("sea 0 0 0 " + text.length(), lookers, 0);
        });
    }

    private static void tooLongByOne() {
        eachShape((wide, rows, lookers) -> {
            String text = text(wide, rows, lookers);
            for (String more : new String[] {"0", ";", "/", "f", "p"}) wrongAt(text + more, text.length());
        });
    }

    private static void tooLongUpToTheSheetsEnd() {
        String text = text(6, 6, 4);
        wrongAt(text + "0".repeat(60 - text.length()), text.length());
    }

    private static void theEmptyText() {
        wrongAt("", 0);
        Ship ship = new Ship().text(0, 0, text(2, 2, 1));
        for (int i = 0; i <= 13; i++) ship.due("sea 0 0 " + i + " 0", -100, 0);
        ship.due("sea 0 0 14 0", -13, 3);
    }

    private static void theColumnOfEachShape() {
        eachShape((wide, rows, lookers) -> {
            String start = "f" + wide + rows + "0".repeat(wide * rows) + ";p0".repeat(lookers) + "/";
            int last = wide - lookers;
            Ship ship = Ship.over(start + last + "0");
            ship.due("many 3", last).due("ofLooker " + (lookers - 1) + " 3", wide - 1);
            wrongAt(start + (last + 1) + "0", start.length());
            wrongAt(start + "90", start.length());
        });
    }

    private static void theRowOfEachShape() {
        eachShape((wide, rows, lookers) -> {
            String start = "f" + wide + rows + "0".repeat(wide * rows) + ";p0".repeat(lookers) + "/0";
            Ship.over(start + "0").due("many 3", 0);
            Ship.over(start + (rows - 1)).due("many 3", wide * (rows - 1));
            wrongAt(start + rows, start.length());
            wrongAt(start + "9", start.length());
        });
    }

    private static void eachHeight() {
        for (int height = 0; height <= 9; height++) {
            Ship ship = Ship.over("f22" + height + "00" + height + ";p0/00");
            ship.due("height 0", height).due("height 1", 0).due("height 2", 0).due("height 3", height);
        }
        wrongAt("f22/000;p0/00", 3);
        wrongAt("f22:000;p0/00", 3);
        wrongAt("f22000/;p0/00", 6);
        wrongAt("f22000:;p0/00", 6);
    }

    private static void eachShort() {
        for (int shorts = 0; shorts <= 9; shorts++) {
            Ship ship = Ship.over("f220000;p" + shorts + ";g" + (9 - shorts) + "/00");
            ship.due("ofLooker 0 1", shorts).due("ofLooker 1 1", 9 - shorts);
        }
        wrongAt("f220000;p//00", 9);
        wrongAt("f220000;p:/00", 9);
    }

    private static void eachKind() {
        Ship.over("f320" + "00000" + ";p0;d0;g0/00").due("ofLooker 0 0", 0).due("ofLooker 1 0", 1).due("ofLooker 2 0", 2);
        for (char other : "ocqefhPDG0;".toCharArray()) wrongAt("f220000;" + other + "0/00", 8);
    }

    private static void thePlaceIsToldFromItsOwnStart() {
        Ship ship = new Ship().text(0, 0, "ff2" + "f227777;x0/00");
        ship.due("sea 0 0 0 16", -101).due("sea 0 0 1 15", -102).due("sea 0 0 2 14", -100).due("sea 0 0 3 13", -108);
        ship.due("sea 0 0 3 5", -105).due("sea 0 0 4 12", -100).due("sea 0 0 15 1", -100);
    }

    private static void whatStandsAheadAndBehindCountsForNothing() {
        String text = text(3, 2, 2);
        Ship ship = new Ship().text(2, 1, "/9" + text + "0;");
        ship.due("sea 2 1 2 " + text.length(), 2, 0).due("many 0", 3);
        ship.due("sea 2 1 2 " + (text.length() + 1), -100 - text.length(), 0);
        ship.due("sea 2 1 2 " + (text.length() - 1), -100 - text.length() + 1, 0);
        ship.due("sea 2 1 1 " + text.length(), -100, 0);
    }

    private static void aTextAtTheEndOfTheLongestSheet() {
        String text = text(6, 6, 4);
        Ship ship = new Ship().text(3, 0, ".".repeat(60 - text.length()) + text);
        int i = 60 - text.length();
        ship.due("sea 3 0 " + i + " " + text.length(), 4, 0).due("sea 3 0 " + i + " " + (text.length() + 1), -13, 3);
        ship.due("sea 3 0 " + (i + 1) + " " + text.length(), -13, 3).due("sea 3 0 0 60", -100, 0).due("sea 3 0 0 61", -13, 3);
    }

    private static int[] withAll(String text, int more) {
        int[] codes = Due.codes(text);
        for (int p = 0; p < codes.length; p++) codes[p] += more;
        return codes;
    }

    private static void codesAreCutToTheirLane() {
        String text = text(2, 2, 1);
        new Ship().row(0, 0, withAll(text, 256)).due("sea 0 0 0 13", 1, 0);
        new Ship().row(0, 0, withAll(text, -256)).due("sea 0 0 0 13", 1, 0);
        new Ship().row(0, 1, withAll(text, 65536)).due("sea 0 1 0 13", 1, 0);
        new Ship().row(0, 1, withAll(text, -65536)).due("sea 0 1 0 13", 1, 0);
        new Ship().row(0, 0, withAll(text, 65536)).due("sea 0 0 0 13", 1, 0);
    }

    private static void codesThatAreNotCut() {
        String text = text(2, 2, 1);
        new Ship().row(0, 1, withAll(text, 256)).due("sea 0 1 0 13", -100, 0);
        new Ship().row(0, 2, withAll(text, 256)).due("sea 0 2 0 13", -100, 0);
        new Ship().row(0, 2, withAll(text, 65536)).due("sea 0 2 0 13", -100, 0);
        Ship ship = new Ship().row(0, 2, Due.codes(text));
        ship.due("put 0 3 " + (48 + 65536), 1).due("sea 0 2 0 13", -103, 0);
        ship.due("put 0 3 " + (48 + 256), 1).due("sea 0 2 0 13", -103, 0);
        ship.due("put 0 3 48", 1).due("sea 0 2 0 13", 1, 0);
    }

    private static void codesBelowZero() {
        for (int lane = 0; lane <= 2; lane++) {
            String text = text(2, 2, 1);
            for (int p = 0; p < 13; p++) {
                Ship ship = new Ship().text(0, lane, text);
                ship.due("put 0 " + p + " -" + (int) text.charAt(p), 1).due("sea 0 " + lane + " 0 13", -100 - p, 0);
            }
        }
    }

    private static void theFirstOfTwoFaults() {
        wrongAt("x12", 0);
        wrongAt("f17", 1);
        wrongAt("f27x", 2);
        wrongAt("f22x00x;p0/00", 3);
        wrongAt("f220000.x", 7);
        wrongAt("f220000;xx/99", 8);
        wrongAt("f220000;px/99", 9);
        wrongAt("f220000;p0/99", 11);
        wrongAt("f220000;p0/199", 12);
        wrongAt("f220000;p0/1199", 13);
    }

    private static void seaIsOneLaneAtATime() {
        String text = text(2, 2, 1);
        for (int lane = 0; lane <= 2; lane++) {
            Ship ship = new Ship().text(0, lane, text);
            for (int as = -1; as <= 3; as++) {
                if (as < 0 || as > 2) ship.due("sea 0 " + as + " 0 13", HullCharts.OUTSIDE, 0);
                else if (as != lane) ship.due("sea 0 " + as + " 0 13", -12, 2);
            }
            ship.due("many 0", 0).due("sea 0 " + lane + " 0 13", 1, 0);
        }
    }

    private static void wideIsReadAheadOfLong() {
        taken("f42" + "12345678" + ";p0/31", 1);
        wrongAt("f24" + "12345678" + ";p0/31", 15);
        Ship ship = Ship.over("f42" + "12345678" + ";p0/31");
        ship.due("many 0", 4).due("many 1", 2).due("many 3", 7).due("height 4", 5).due("ofLooker 0 4", 8);
    }
}
