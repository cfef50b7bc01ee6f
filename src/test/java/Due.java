/** What the tests share: answers that are due, and how a SEA or a row is laid. */
final class Due {
    private static int wrong;
    private static int asked;

    private Due() {
    }

    static void due(String call, long got, long want) {
        asked++;
        if (got == want) return;
        wrong++;
        System.out.println(call + " answered " + got + ", due is " + want);
    }

    static void isTrue(String what, boolean so) {
        due(what, so ? 1 : 0, 1);
    }

    static void end() {
        System.out.println(asked + " answers, " + wrong + " not as due");
        if (wrong != 0 || asked == 0) System.exit(1);
    }

    static void lay(HullCharts x, int sheet, int lane, int... numbers) {
        due("sheet for " + numbers.length, x.sheet(sheet, lane, numbers.length), 1);
        for (int i = 0; i < numbers.length; i++) due("put " + i, x.put(sheet, i, numbers[i]), 1);
    }

    static int[] codes(String text) {
        int[] codes = new int[text.length()];
        for (int i = 0; i < codes.length; i++) codes[i] = text.charAt(i);
        return codes;
    }

    /** What sea answers for this TEXT, laid in SHEET 0 as bytes. */
    static int takeSea(HullCharts x, String text) {
        lay(x, 0, 0, codes(text));
        return x.sea(0, 0, 0, text.length());
    }

    static HullCharts with(String text) {
        HullCharts x = new HullCharts();
        isTrue(text + " is taken", takeSea(x, text) > 0);
        return x;
    }

    static void refusedAll(String what, int[] answers, int want) {
        for (int i = 0; i < answers.length; i++) due(what + ", number " + i, answers[i], want);
    }
}
