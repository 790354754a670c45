/** The sentences of the section "What it is": what the machine is for, and how long it is used. */
final class EdgesOfUse extends Edges {
    private static final int MOST_CALLS = 512;
    private static final String LONG_RUN = "An object is used for at most 512 calls after it has been made";

    private EdgesOfUse(Sentences s) {
        super(s);
    }

    static void all(Sentences s) {
        s.section("What it is");
        EdgesOfUse use = new EdgesOfUse(s);
        use.taking();
        use.giving();
        use.telling();
        use.agreeing();
        use.trading512();
        use.owing512();
        use.filling512();
        use.counting512();
        use.later();
    }

    private void taking() {
        s.holds("A change giver: a machine that takes coins and one note at a time",
            "coin(10, 9) = 0; note(50) = 1; note(100) = 2; put({0, 1}); ? put({1, 2}) = 0; put(0); ? look(1) = 70",
            "? look(3) = 1");
        // What is owed from before is no part of what must be given back.
        s.holds("but none with which it could not give back what it owes at any price",
            "coin(10, 9) = 0; note(50) = 1; price(0, 20); price(5, 40); ? put(1) = 0; fill(0, 2); ? put(1) = 0",
            "fill(0, 1); put(1); buy(0) = 3; put(0); stuck(0, true); refund() = 0; ? look(2) = 10; stuck(0, false)",
            "put(0); refund() = 1; ? look(2) = 10");
    }

    private void giving() {
        s.holds("gives the fewest coins, or those that keep its tubes fullest",
            "coin(10, 9) = 0; coin(20, 9) = 1; fill(0, 6); fill(1, 1); 2* put(1); refund() = 2; 2* put(1); mode(1)",
            "refund() = 3; ? gave(0) = 2; ? gave(1) = 1");
        s.holds("goes on with others when a tube jams, keeps what it then owes",
            "coin(10, 9) = 0; coin(50, 9) = 1; fill(0, 5); put(1); jam(1, 0); refund() = 5; ? look(2) = 0",
            "stuck(1, false); put(1); jam(1, 0); refund() = 0; ? look(2) = 50; stuck(1, false); put(0)",
            "refund() = 1; ? look(2) = 50; pay() = 1; ? look(2) = 0");
    }

    private void telling() {
        s.holds("tells its light, the fewest coins that put it out, what can be given at all",
            "coin(10, 9) = 0; note(30) = 1; price(0, 10); ? light() = true; ? need({0, 10}) = 2; ? givable(999) = 0",
            "fill(0, 2); ? light() = false; ? need({0, 10}) = 0; ? givable(999) = 2");
    }

    /** What came in and did not go out is there; what was sold, or is owed, is a part of it. */
    private void agree(String name, ChangeGiver x) {
        int[] values = {10, 50, 100};
        int inTubes = 0;
        int inBox = 0;
        for (int k = 0; k < values.length; k++) {
            inTubes += values[k] * x.kind(k, 3);
            inBox += values[k] * x.kind(k, 4);
        }
        int note = x.look(3);
        int has = x.look(5);
        s.is(name + ": the box", x.look(6), inBox);
        s.is(name + ": tubes, box and note", has, inTubes + inBox + (note < 0 ? 0 : values[note]));
        s.is(name + ": came and went", x.look(10) + x.look(13) - x.look(12) - x.look(14) - x.look(15), has);
    }

    private void agreeing() {
        String name = s.words("and its books agree with tubes, box and what came and went, to the coin.");
        String[] run = {
            "coin(10, 3) = 0; coin(50, 3) = 1; note(100) = 2; price(0, 30)", "fill({0, 1}, 3)", "put(2)", "put(0)",
            "put(1)", "jam(1, 1)", "buy(0) = 1", "? pay() = NONE", "stuck(1, false)", "pay() = 4", "empty() = 160",
            "count(1, 2) = -50", "count(1, 0) = 100", "fill({0, 1}, 2)", "drain(0, 1)", "put(0)", "? put(2) = 0",
            "refund() = 1", "price(0, 0)", "put(2)", "? empty() = 0", "refund() = 0"};
        ChangeGiver x = new ChangeGiver();
        for (String row : run) {
            for (Step step : Step.all(row)) {
                s.is(name + " | " + step.call, step.call.on(x), step.due);
            }
            agree(name + " | behind " + row, x);
        }
    }

    /** Two calls to begin with, 254 times two, two questions: 512. */
    private void trading512() {
        String name = s.words(LONG_RUN) + " | trading";
        ChangeGiver x = new ChangeGiver();
        s.is(name + ": coin", x.coin(200, 20), 0);
        s.is(name + ": price", x.price(5, 200) ? 1 : 0, 1);
        for (int i = 0; i < 254; i++) {
            s.is(name + ": put " + i, x.put(0), 1);
            s.is(name + ": buy " + i, x.buy(5), 0);
        }
        s.is(name + ": sold, the 511th call", x.look(11), 254 * 200);
        s.is(name + ": box, the 512th call", x.kind(0, 4), 254 - 20);
    }

    private void owing512() {
        String name = s.words(LONG_RUN) + " | owing";
        ChangeGiver x = new ChangeGiver();
        s.is(name + ": coin", x.coin(200, 20), 0);
        for (int i = 0; i < 127; i++) {
            s.is(name + ": put " + i, x.put(0), 1);
            s.is(name + ": stuck " + i, x.stuck(0, true) ? 1 : 0, 1);
            s.is(name + ": refund " + i, x.refund(), 0);
            s.is(name + ": not stuck " + i, x.stuck(0, false) ? 1 : 0, 1);
        }
        s.is(name + ": owed, the 510th call", x.look(2), 127 * 200);
        s.is(name + ": has, the 511th call", x.look(5), 127 * 200);
        s.is(name + ": pay, the 512th call", x.pay(), -1);
    }

    private void filling512() {
        String name = s.words(LONG_RUN) + " | filling";
        ChangeGiver x = new ChangeGiver();
        s.is(name + ": coin", x.coin(200, 20), 0);
        for (int i = 0; i < 254; i++) {
            s.is(name + ": fill " + i, x.fill(0, 20) ? 1 : 0, 1);
            s.is(name + ": drain " + i, x.drain(0, 20) ? 1 : 0, 1);
        }
        s.is(name + ": has, the 510th call", x.look(5), 0);
        s.is(name + ": filled, the 511th call", x.look(13), 254 * 4000);
        s.is(name + ": emptied, the 512th call", x.look(14), 254 * 4000);
    }

    /** What is lost may well be the number that look() answers for another what. */
    private void counting512() {
        String name = s.words(LONG_RUN) + " | counting";
        ChangeGiver x = new ChangeGiver();
        s.is(name + ": coin", x.coin(200, 20), 0);
        for (int i = 0; i < 250; i++) {
            s.is(name + ": count " + i, x.count(0, 20), -4000);
            s.is(name + ": drain " + i, x.drain(0, 20) ? 1 : 0, 1);
        }
        s.is(name + ": lost", x.look(15), -1000000);
        s.is(name + ": one more", x.count(0, 20), -4000);
        s.is(name + ": lost now", x.look(15), -1004000);
        s.is(name + ": found again", x.count(0, 19), 200);
        s.is(name + ": lost then", x.look(15), -1003800);
    }

    /** Free as the answers are, a call must answer, and whatever it counts may wrap around. */
    private void later() {
        String name = s.words("what later calls answer is free.");
        Call[] calls = Step.all("fill({0 .. 5}, 20); put({0 .. 5}); stuck(0, true); refund(); stuck(0, false)",
        "buy(0); pay(); jam(1, 1);"
            + "count({0 .. 2}, 20); drain(0, 20); empty(); need(0); light(); look({0 .. 20}); gave(0); way(999, 0)",
            "coins(800); givable(999)")
            .stream().map(step -> step.call).toArray(Call[]::new);
        ChangeGiver x = new ChangeGiver();
        x.coin(200, 20);
        x.coin(100, 20);
        x.coin(1, 20);
        x.note(50);
        x.price(0, 200);
        boolean threw = false;
        for (int i = 0; i < 40 * MOST_CALLS && !threw; i++) {
            threw = calls[i % calls.length].on(x) == Call.THREW;
        }
        s.is(name + " | throws nothing", threw ? 1 : 0, 0);
    }
}
