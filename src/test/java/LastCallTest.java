/** An object is good for 512 calls: each call, asked again and again up to the last of them, answers as the model does. */
public final class LastCallTest {
    private static final String CALLS = """
        sea 0 0 0 27
        sea 0 0 0 26
        ofLooker 2 4
        height 11
        heap 11 9
        dim 2 9
        scrape 0
        grow 1
        seen
        step 3
        step 2
        voyage 2 2 2 1 2
        voyage 1 1 0 4 1
        way 11 0
        most 5 -1
        flat 1
        begun 2 2 0 2 3 0
        run 2 2 0 6 1
        reading 0 5 4
        back 1
        shorts 0
        kinds 2
        odds 2 3 1
        sheet 3 2 60
        lose 2
        put 1 4 70000
        cell 2 5 2
        copy 2 0 2 1 5
        tell 2
        greet 2
        as 0 2
        trace
        fault
        many 5
        """;

    private LastCallTest() {
    }

    public static void main(String[] args) {
        for (String call : CALLS.lines().toList()) again(call, call);
        again("step 3", "step 1");
        again("step 0", "step 2");
        again("scrape 0", "grow 0");
        again("reading 1 3 4", "back 1");
        again("sheet 3 0 1", "lose 3");
        again("sea 0 0 0 27", "greet 0");
        Due.end();
    }

    /** The two calls in turn, as often as the object is good for. */
    private static void again(String one, String other) {
        Ship program = State.RICH.bring(new Ship());
        Ship model = State.RICH.bring(new Ship(new Model()));
        while (program.asked() < Ship.MOST_CALLS) {
            String call = program.asked() % 2 == 0 ? one : other;
            Due.due(call + ", call " + program.asked(), program.ask(call), model.ask(call));
        }
        Due.due("calls", program.asked(), Ship.MOST_CALLS);
    }
}
