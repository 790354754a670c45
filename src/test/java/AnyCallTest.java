import java.util.List;

/** Rule 7 of the language: no call may ever throw or fail to end, for any arguments in any state. */
public final class AnyCallTest {
    private static final String NUMBERS = "{min, -2147483639, -2147483638, -1000000, -999, -20, -10, -2, -1, 0 .. 7, "
        + "10, 15, 16, 20, 21, 63, 64, 99, 100, 200, 201, 300, 301, 960, 999, 1000, 2147483637, 2147483638, max}";
    private static final String[] ONE = {
        "note", "mode", "put", "takes", "buy", "gave", "coins", "givable", "need", "look", "priced"};
    private static final String[] TWO = {"coin", "price", "fill", "jam", "way", "kind", "drain", "count"};
    private static final String[] NO = {"refund()", "pay()", "light()", "empty()"};

    private static final String SIX = "coin(1, 20) = 0; coin(200, 20) = 1; coin(7, 0) = 2; coin(50, 3) = 3;"
        + "note(100) = 4; coin(199, 20) = 5;";
    private static final String FULL = SIX + "fill({0, 1, 5}, 20); fill(3, 3); price(0, 100); price(5, 300);";
    private static final String COINS = "coin(3, 20) = 0; coin(5, 20) = 1; coin(64, 20) = 2; coin(50, 20) = 3;"
        + "coin(100, 20) = 4; coin(199, 20) = 5;";
    private static final String OWES = "stuck(0, true); refund() = 0; stuck(0, false);";
    private static final String[] STATES = {
        "",
        "price({0 .. 5}, 300)",
        "coin(10, 0) = 0",
        "note(200) = 0; put(0)",
        "note(1) = 0; note(2) = 1; note(3) = 2; note(4) = 3; note(5) = 4; note(6) = 5; put(5)",
        SIX,
        SIX + "mode(1); price(0, 7)",
        FULL,
        FULL + "mode(1)",
        COINS + "fill({0 .. 5}, 20); mode(1)",
        COINS + "price(3, 1); put(0) = 0",
        FULL + "put({4, 0, 1, 2, 3})",
        FULL + "mode(1); put(4); 4* put(1); ? look(1) = 900",
        FULL + "jam({0 .. 3, 5}, 0); put({4, 5})",
        FULL + "put({4, 1}); stuck({0 .. 3, 5}, true)",
        FULL + "stuck({0 .. 3, 5}, true)",
        "coin(200, 20) = 0; 4* put(0);" + OWES + "put(0);" + OWES + "? look(2) = 1000",
        "coin(111, 20) = 0; 9* put(0);" + OWES + "jam(0, 3)",
        "coin(200, 20) = 0; coin(1, 20) = 1; 4* put(0); ? look(1) = 800"};

    private static final Due DUE = new Due();

    public static void main(String[] args) {
        for (String state : STATES) {
            List<Step> steps = Step.all(state);
            reached(state, steps);
            for (String name : ONE) {
                tryAll(state, steps, name + "(" + NUMBERS + ")");
            }
            for (String name : TWO) {
                tryAll(state, steps, name + "(" + NUMBERS + ", " + NUMBERS + ")");
            }
            tryAll(state, steps, "stuck(" + NUMBERS + ", {true, false})");
            for (String call : NO) {
                tryAll(state, steps, call);
            }
        }
        DUE.end("AnyCallTest");
    }

    /** The state is what its steps say, else the test would try the calls elsewhere. */
    private static void reached(String state, List<Step> steps) {
        ChangeGiver x = new ChangeGiver();
        for (Step step : steps) {
            DUE.is(state + " | " + step.call, step.call.on(x), step.due);
        }
    }

    /** Each call twice on an object of its own: the second time in the state that the first one left. */
    private static void tryAll(String state, List<Step> steps, String calls) {
        for (String text : Step.spread(calls)) {
            ChangeGiver x = new ChangeGiver();
            for (Step step : steps) {
                step.call.on(x);
            }
            Call call = Call.of(text);
            for (int i = 0; i < 2; i++) {
                DUE.is(state + " | " + text + " throws", call.on(x) == Call.THREW, false);
            }
        }
    }
}
