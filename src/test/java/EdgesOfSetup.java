/** The sentences of promises 1 to 8: a new object, and how kinds, prices, tubes and jams are told. */
final class EdgesOfSetup extends Edges {
    private static final String FOUR_TAKEN = "coin(1, 5) = 0; note(2) = 1; coin(3, 5) = 2; note(4) = 3;";

    private EdgesOfSetup(Sentences s) {
        super(s);
    }

    static void all(Sentences s) {
        EdgesOfSetup setup = new EdgesOfSetup(s);
        setup.newObject();
        setup.coin();
        setup.note();
        setup.price();
        setup.mode();
        setup.fill();
        setup.stuck();
        setup.jam();
    }

    private void newObject() {
        s.section("Promise 1: A new object");
        s.holds("No KINDS, no PRICES.",
            "? look({0 .. 2, 4 .. 6, 10 .. 15}) = 0; ? look(3) = NONE; ? priced({0 .. 5}) = 0; ? light() = false",
            "? kind({0 .. 5}, {0 .. 6}) = NONE - 1; ? gave({0 .. 5}) = NONE; ? takes({0 .. 5}) = NONE",
            "? put({0 .. 5}) = NONE");
        s.holds("No KINDS, no PRICES.",
            "? fill({0, 5}, 0) = false; ? stuck({0, 5}, true) = false; ? stuck({0, 5}, false) = false",
            "? jam({0, 5}, 0) = false; ? drain({0, 5}, 0) = false; ? count({0, 5}, 0) = NONE - 999999",
            "? way(0, {0, 5}) = NONE; ? buy({0 .. 5}) = NONE; ? refund() = NONE; ? pay() = NONE; ? empty() = 0",
            "? coins(0) = 0; ? coins({1, 999}) = NONE; ? givable({0, 1, 999}) = 0; ? need(0) = 0",
            "? need({10 .. 15}) = NONE; coin(5, 5) = 0; ? need(10) = 0");
        String name = s.words("No KINDS, no PRICES.") + " | an object of its own";
        ChangeGiver one = new ChangeGiver();
        ChangeGiver other = new ChangeGiver();
        one.coin(5, 5);
        one.price(0, 5);
        one.put(0);
        s.is(name + ": look(0)", other.look(0), 0);
        s.is(name + ": look(1)", other.look(1), 0);
        s.is(name + ": priced(0)", other.priced(0), 0);
    }

    private void coin() {
        s.section("Promise 2: coin");
        s.holds("A COIN comes, with ROOM in its TUBE: its KIND.",
            "coin(1, 0) = 0; coin(200, 20) = 1; ? kind(0, 0) = 1; ? kind(0, 2) = 0; ? kind(1, 0) = 200",
            "? kind(1, 2) = 20; ? kind({0, 1}, {1, 3, 4, 5}) = 0; ? kind({0, 1}, 6) = NONE; ? look(0) = 2",
            "? kind(2, 0) = NONE - 1");
        s.holds("NONE, and nothing is done: there is one of that VALUE",
            FOUR_TAKEN + "? coin({1 .. 4}, 5) = NONE; ? coin(1, 6) = NONE; ? kind(0, 2) = 5; ? look(0) = 4",
            "coin(5, 5) = 4; ? coin(5, 5) = NONE");
        s.holds("something can't be",
            "? coin({0, -1, -200, 201, min, max}, 5) = NONE; ? coin(5, {-1, 21, min, max}) = NONE",
            "? coin({0, 201}, {-1, 21}) = NONE; ? look(0) = 0; coin(5, 5) = 0");
        s.holds("there is a CREDIT",
            FOUR_TAKEN + "put(0); ? coin(5, 5) = NONE; refund() = 1; put(1); ? coin(5, 5) = NONE; refund() = 0",
            "coin(5, 5) = 4");
        s.holds("there is a CREDIT",
            FOUR_TAKEN + "price(0, 1); put(0); ? coin(6, 5) = NONE; buy(0) = 0; coin(6, 5) = 4; put(0)",
            "stuck(0, true); refund() = 0; ? look(2) = 1; coin(7, 5) = 5");
        s.holds("or there are 6.",
            FOUR_TAKEN + "coin(5, 5) = 4; ? look(0) = 5; coin(6, 5) = 5; ? coin(7, 5) = NONE; ? look(0) = 6",
            "? kind(5, 0) = 6");
    }

    private void note() {
        s.section("Promise 3: note");
        String words = "A NOTE comes likewise.";
        s.holds(words,
            "note(1) = 0; note(200) = 1; ? kind(0, 0) = 1; ? kind(1, 0) = 200; ? kind({0, 1}, 1) = 1; ? look(0) = 2",
            "? kind({0, 1}, {2 .. 5}) = 0; ? kind({0, 1}, 6) = NONE");
        s.holds(words, "? note({0, -1, -200, 201, min, max}) = NONE; ? look(0) = 0; note(5) = 0");
        s.holds(words,
            FOUR_TAKEN + "? note({1 .. 4}) = NONE; ? kind(0, 1) = 0; ? look(0) = 4; note(5) = 4; ? note(5) = NONE");
        s.holds(words,
            FOUR_TAKEN + "put(0); ? note(5) = NONE; refund() = 1; put(1); ? note(5) = NONE; refund() = 0",
            "note(5) = 4");
        // What is owed is no credit.
        s.holds(words, FOUR_TAKEN + "put(0); stuck(0, true); refund() = 0; ? look(2) = 1; note(5) = 4; price(0, 5)");
        s.holds(words,
            FOUR_TAKEN + "note(5) = 4; ? look(0) = 5; note(6) = 5; ? note(7) = NONE; ? look(0) = 6",
            "? kind(5, 0) = 6");
    }

    private void price() {
        s.section("Promise 4: price");
        s.holds("PRICE p is v (0: none): true",
            "price({0 .. 5}, 1); ? priced({0 .. 5}) = 1; price(0, 300); ? priced(0) = 300; price(5, 300)",
            "? priced(5) = 300; price(0, 300); price(0, 0); ? priced(0) = 0; price(0, 0); ? priced({1 .. 4}) = 1");
        s.holds("PRICE p is v (0: none): true",
            "note(100) = 0; price(0, 30); ? takes(0) = 0; price(0, 0); ? takes(0) = 1; put(0); ? buy(0) = NONE");
        s.holds("false, and nothing is done, if that can't be",
            "price({0, 5}, 20); ? price({-1, 6, 7, min, max}, {0, 1, 300}) = false",
            "? price({0, 5}, {-1, 301, min, max}) = false; ? priced({0, 5}) = 20; ? priced({1 .. 4}) = 0");
        s.holds("or there is a CREDIT.",
            WITH_NOTE + "fill(0, 9); price(0, 30); put(0); ? price(0, 40) = false; ? price(0, 0) = false",
            "? price(1, 10) = false; ? priced(0) = 30; ? priced(1) = 0; refund() = 1; price(0, 40); put(1)",
            "? price(0, 50) = false; buy(0) = 1; price(0, 50); ? priced(0) = 50");
        s.holds("or there is a CREDIT.",
            "note(100) = 0; put(0); ? price(0, 100) = false; ? price(0, 0) = false; refund() = 0; price(0, 100)");
    }

    private void mode() {
        s.section("Promise 5: mode");
        s.holds("MODE 0 or 1: true",
            TEN_FIFTY + "? look(4) = 0; mode(0); ? look(4) = 0; mode(1); ? look(4) = 1; mode(1); ? look(4) = 1",
            "put(0); mode(0); ? look(4) = 0; ? look(1) = 10");
        s.holds("false, and nothing is done, for another one.",
            "? mode({-1, 2, 3, -2, min, max}) = false; ? look(4) = 0; mode(1)",
            "? mode({-1, 2, 3, -2, min, max}) = false; ? look(4) = 1");
    }

    private void fill() {
        s.section("Promise 6: fill");
        s.holds("So many COINS of KIND k are filled into its TUBE: true",
            TEN_FIFTY + "fill(0, 0); ? kind(0, 3) = 0; fill(0, 1); ? kind(0, 3) = 1; fill(0, 9); ? kind(0, 3) = 10",
            "? kind(1, 3) = 0; ? look(13) = 100; fill(0, 0); ? kind(0, 3) = 10; ? look(6) = 0; ? coins(100) = 10");
        // Neither a credit nor a tube that is stuck stands in the way.
        s.holds("So many COINS of KIND k are filled into its TUBE: true",
            TEN_FIFTY + "put(0); fill(0, 9); ? fill(0, 1) = false; stuck(1, true); fill(1, 10)",
            "? kind({0, 1}, 3) = 10; ? look(1) = 10");
        s.holds("false, and nothing is done: no such COIN",
            WITH_NOTE + "? fill(" + NO_KIND + ", {0, 1}) = false; ? fill(2, {0, 1}) = false",
            "? kind({0 .. 2}, 3) = 0; ? look(13) = 0");
        s.holds("n is below 0",
            TEN_FIFTY + "fill(0, 5); ? fill({0, 1}, {-1, -5, -6, min}) = false; ? kind(0, 3) = 5; ? look(13) = 50");
        s.holds("or there is no ROOM.",
            TEN_FIFTY + "coin(20, 0) = 2; coin(30, 20) = 3; ? fill(0, {11, 12, max}) = false; fill(0, 4)",
            "? fill(0, {7, max}) = false; fill(0, 6); ? fill(0, {1, max}) = false; ? fill(2, {1, max}) = false",
            "? fill(3, {21, max}) = false; fill(3, 20); ? kind(0, 3) = 10; ? kind(2, 3) = 0; ? kind(3, 3) = 20",
            "? look(6) = 0; ? look(13) = 700");
    }

    private void stuck() {
        s.section("Promise 7: stuck");
        s.holds("TUBE k is STUCK, or not: true",
            TEN_FIFTY + "fill({0, 1}, 1); stuck(1, true); ? kind(0, 5) = 0; ? kind(1, 5) = 1; ? coins(50) = NONE",
            "stuck(0, true); ? kind(0, 5) = 1; ? coins(10) = NONE; stuck(1, false); ? kind(1, 5) = 0",
            "? coins(50) = 1; ? coins(10) = NONE");
        s.holds("TUBE k is STUCK, or not: true",
            "coin(10, 0) = 0; stuck(0, true); stuck(0, false); coin(20, 5) = 1; put(1); stuck(1, true)",
            "? kind(1, 5) = 1; ? look(1) = 20");
        s.holds("false, and nothing is done: no such COIN",
            WITH_NOTE + "? stuck(" + NO_KIND + ", {true, false}) = false; ? stuck(2, {true, false}) = false",
            "? kind({0 .. 2}, 5) = 0");
        s.holds("or it was so.",
            TEN_FIFTY + "? stuck({0, 1}, false) = false; stuck(0, true); ? stuck(0, true) = false; ? kind(0, 5) = 1",
            "? kind(1, 5) = 0; stuck(0, false); ? stuck(0, false) = false; ? kind(0, 5) = 0");
    }

    private void jam() {
        s.section("Promise 8: jam");
        s.holds("TUBE k will JAM behind n more COINS (0 .. 99) that it gives",
            TEN_FIFTY + "fill(0, 8); jam(0, 99); ? kind(0, 6) = 99; ? kind(1, 6) = NONE; 2* put(0); refund() = 2",
            "? kind(0, 6) = 97; jam(0, 2); put(0); refund() = 1; ? kind(0, 6) = 1; put(0); refund() = 1",
            "? kind(0, 6) = 0; ? kind(0, 5) = 0; ? coins(10) = 1; put(0); refund() = 0; ? kind(0, 5) = 1",
            "? look(2) = 10");
        s.holds("TUBE k will JAM behind n more COINS (0 .. 99) that it gives",
            TEN_FIFTY + "jam(0, 0); ? kind(0, 6) = 0; ? kind(0, 5) = 0; put(0); ? kind(0, 6) = 0; refund() = 0",
            "? kind(0, 5) = 1");
        // Only what the tube gives counts: not what is drained, counted or put in.
        s.holds("TUBE k will JAM behind n more COINS (0 .. 99) that it gives",
            TEN_FIFTY + "fill(0, 8); jam(0, 5); drain(0, 3); count(0, 1) = 40; put(0); stuck(0, true)",
            "stuck(0, false); ? kind(0, 6) = 5");
        s.holds("(-1: it won't; as at first, and when it has): true",
            TEN_FIFTY + "? kind({0, 1}, 6) = NONE; jam(0, -1); jam(0, 0); jam(0, -1); ? kind(0, 6) = NONE; put(0)",
            "refund() = 1; jam(0, 0); put(0); refund() = 0; ? kind(0, 6) = NONE; ? kind(0, 5) = 1; stuck(0, false)",
            "pay() = 1; ? kind(0, 5) = 0");
        s.holds("(-1: it won't; as at first, and when it has): true",
            TEN_FIFTY + "stuck(0, true); jam(0, 7); ? kind(0, 6) = 7; stuck(0, false); ? kind(0, 6) = 7; put(0)",
            "jam(0, 8); ? kind(0, 6) = 8");
        s.holds("false, and nothing is done, if that can't be.",
            WITH_NOTE + "jam(0, 3); ? jam({0, 1}, {-2, 100, min, max}) = false",
            "? jam(" + NO_KIND + ", {-1, 0}) = false",
            "? jam(2, {-1, 0, 99}) = false; ? kind(0, 6) = 3; ? kind({1, 2}, 6) = NONE");
    }
}
