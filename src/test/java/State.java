import java.util.ArrayList;
import java.util.List;

/** States in which calls are asked, each as the calls by which a new object comes to it. */
enum State {
    /** Nothing was asked yet. */
    NEW,
    /** No SEA, a SHEET of each LANE, one that has nothing. */
    SHEETS,
    /** The least SEA, SHEETS of no cells. */
    LEAST,
    /** A SEA with all kinds, one LOOKER GONE, STEPS, READINGS, TRACE; SHEETS of each LANE, one that has nothing again. */
    RICH,
    /** The greatest SEA, longest SHEETS. */
    GREATEST,
    /** READINGS are FULL, LOOKERS as many as columns. */
    FULL,
    /** All LOOKERS are GONE. */
    ALL_GONE;

    private final List<String> calls = new ArrayList<>();

    static {
        SHEETS.row(0, 0, -128, 127, 3).row(1, 1, -32768, 32767).row(2, 2, Integer.MIN_VALUE, Integer.MAX_VALUE, 1, 1);
        LEAST.sea("f220120;d3/10").row(0, 0).row(1, 1).row(2, 2).row(3, 0);
        RICH.sea("f43" + "122422559022" + ";p1;d0;g2" + "/01").row(1, 1, 0, 1, 2, 3, 4).row(2, 2, 1, 2, 0, 2, 1, 2).row(3, 2, 7);
        RICH.calls("lose 3", "step 0", "step 1", "scrape 1", "step 2", "heap 0 9", "dim 2 1", "reading 0 5 4", "reading 2 9 18",
            "reading 1 3 4", "tell 2", "greet 0");
        GREATEST.sea("f66" + "012345678998765432100123456789987654" + ";p0;d1;g2;p9/25");
        GREATEST.row(2, 2, sixty(4)).calls("sheet 1 1 60", "sheet 3 0 60", "put 3 59 127", "put 1 59 -1");
        FULL.sea("f23" + "112233" + ";g0;d9/02").row(1, 0, 2, 2, 0).row(2, 2, 1, 2, 3);
        for (int r = 0; r < 8; r++) FULL.calls("reading " + r % 2 + " " + (9 - r) + " " + (r % 2 == 0 ? 20 - 2 * r : 1));
        ALL_GONE.sea("f52" + "1234567890" + ";g0;p3/01").row(2, 2, 1, 0, 3, 2).calls("scrape 0", "step 0", "scrape 1", "step 1");
    }

    private static int[] sixty(int every) {
        int[] numbers = new int[60];
        for (int i = 0; i < 60; i++) numbers[i] = i % every;
        return numbers;
    }

    private State calls(String... more) {
        calls.addAll(List.of(more));
        return this;
    }

    private State row(int k, int lane, int... numbers) {
        calls.add("sheet " + k + " " + lane + " " + numbers.length);
        for (int i = 0; i < numbers.length; i++) calls.add("put " + k + " " + i + " " + numbers[i]);
        return this;
    }

    private State sea(String text) {
        row(0, 0, Due.codes(text));
        return calls("sea 0 0 0 " + text.length());
    }

    /** How many cells this SHEET has then; 0 for nothing. */
    int length(int k) {
        int length = 0;
        for (String call : calls) {
            if (call.startsWith("sheet " + k + " ")) length = Integer.parseInt(call.split(" ")[3]);
            if (call.equals("lose " + k)) length = 0;
        }
        return length;
    }

    /** Brings a new object there; none of the calls on the way is refused. */
    Ship bring(Ship ship) {
        for (String call : calls) Due.isTrue(this + ": " + call + " is not refused", ship.ask(call) >= 0);
        return ship;
    }
}
