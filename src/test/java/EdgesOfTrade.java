/** The sentences of promises 9 to 14: what is put in, bought, given back and paid. */
final class EdgesOfTrade extends Edges {
    private EdgesOfTrade(Sentences s) {
        super(s);
    }

    static void all(Sentences s) {
        EdgesOfTrade trade = new EdgesOfTrade(s);
        trade.put();
        trade.takes();
        trade.buy();
        trade.refund();
        trade.pay();
        trade.payRefused();
        trade.gave();
    }

    private void put() {
        s.section("Promise 9: put");
        s.holds("Something of KIND k is put in: 1 it is TAKEN",
            WITH_NOTE + "put(0) = 1; ? kind(0, 3) = 1; ? look(1) = 10; ? look(10) = 10; put(2) = 1; ? look(3) = 2",
            "? look(1) = 110; put(1) = 1; ? kind(1, 3) = 1; ? look(1) = 160; ? look(10) = 160; ? look(5) = 160",
            "? look(6) = 0");
        s.holds("0 it falls through",
            WITH_NOTE + "price(0, 20); price(1, 99); ? put(2) = 0; ? put(1) = 0; ? look({1, 5, 10}) = 0; put(0) = 1",
            "? put(1) = 0; ? put(2) = 0; ? look({1, 5, 10}) = 10; ? look(3) = NONE");
        s.holds("NONE if there is none such.",
            "? put({-1, 0, 1, 5, 6, min, max}) = NONE; " + WITH_NOTE + "? put(" + NO_KIND + ") = NONE; put(0)",
            "? put(" + NO_KIND + ") = NONE");
    }

    private void takes() {
        s.section("Promise 10: takes");
        s.holds("Whether something of KIND k would be TAKEN now: 1, 0",
            WITH_NOTE + "price(0, 30); fill(0, 2); ? takes({0, 1}) = 1; ? takes(2) = 0; ? look({1, 10}) = 0",
            "? kind({0, 1}, 4) = 0; ? kind(0, 3) = 2; ? kind(1, 3) = 0; put(1); ? takes(2) = 0; fill(0, 5)",
            "? takes(2) = 1; put(2); ? takes(2) = 0; ? takes(0) = 1");
        s.holds("NONE likewise.",
            "? takes({-1, 0, 1, 5, 6, min, max}) = NONE; " + WITH_NOTE + "? takes(" + NO_KIND + ") = NONE; put(0)",
            "? takes(" + NO_KIND + ") = NONE");
    }

    private void buy() {
        s.section("Promise 11: buy");
        s.holds("BUYING at PRICE p: how many COINS were given.",
            TEN_FIFTY + "fill(0, 5); price(0, 30); price(5, 50); put(1); buy(5) = 0; ? look(1) = 0; ? look(11) = 50",
            "put(1); buy(0) = 2; ? look(11) = 80; ? look(12) = 20; ? kind(0, 3) = 3; ? kind(1, 3) = 2");
        s.holds("BUYING at PRICE p: how many COINS were given.",
            WITH_NOTE + "fill(0, 5); fill(1, 1); price(3, 30); put({2, 0}); buy(3) = 4; ? gave(0) = 3",
            "? gave(1) = 1; ? gave(2) = 0; put(0); fill(0, 4); ? look(1) = 10; ? look(6) = 100");
        s.holds("NONE, and nothing is done: none such",
            WITH_NOTE + "price(1, 110); put(0); ? buy({0, 2 .. 7, -1, min, max}) = NONE; ? look(1) = 10",
            "? look(11) = 0; put(2); ? buy({0, 2 .. 7, -1, min, max}) = NONE; ? look(3) = 2; ? kind(2, 4) = 0");
        s.holds("or it is above CREDIT.",
            WITH_NOTE + "price(0, 10); price(1, 11); price(2, 300); ? buy({0 .. 2}) = NONE; put(0)",
            "? buy({1, 2}) = NONE; ? look(1) = 10; buy(0) = 0; ? buy(0) = NONE; price(1, 100); price(0, 0); put(2)",
            "? buy(2) = NONE; ? look(3) = 2; buy(1) = 0");
        s.holds("or it is above CREDIT.",
            "coin(150, 9) = 0; price(0, 300); put(0); ? buy(0) = NONE; put(0); buy(0) = 0; ? look(11) = 300");
    }

    private void refund() {
        s.section("Promise 12: refund");
        s.holds("A REFUND: how many COINS were given (the NOTE aside)",
            WITH_NOTE + "fill(1, 1); 5* put(0); refund() = 1; ? gave(1) = 1; ? gave(0) = 0; ? kind(0, 3) = 5",
            "? look(1) = 0; ? look(12) = 50; put(2); refund() = 0; ? gave({0 .. 2}) = 0; ? look(12) = 150; put(2)",
            "put(0); refund() = 1; ? gave(0) = 1; ? gave(2) = 0");
        s.holds("NONE, and nothing is done, if CREDIT is 0.",
            WITH_NOTE + "fill(0, 2); price(0, 10); ? refund() = NONE; put(0); refund() = 1; ? refund() = NONE",
            "? gave(0) = 1; put(0); buy(0) = 0; ? refund() = NONE; ? look(12) = 10; put(0); stuck(0, true)",
            "refund() = 0; ? look(2) = 10; ? refund() = NONE");
    }

    private void pay() {
        s.section("Promise 13: pay");
        String words = "What is OWED is given, if it can be GIVEN (a TUBE may JAM then, too): how many COINS.";
        s.holds(words,
            TEN_FIFTY + "fill(0, 4); price(0, 10); put(1); stuck(0, true); buy(0) = 0; ? look(2) = 40",
            "stuck(0, false); pay() = 4; ? gave(0) = 4; ? gave(1) = 0; ? look(2) = 0; ? look(12) = 40",
            "? kind(0, 3) = 0; ? pay() = NONE");
        s.holds(words,
            TEN_FIFTY + "fill(0, 4); price(0, 10); put(1); stuck(0, true); buy(0) = 0; stuck(0, false); jam(0, 1)",
            "pay() = 1; ? look(2) = 30; ? kind(0, 5) = 1; ? kind(0, 6) = NONE; ? kind(0, 3) = 3; ? look(12) = 10",
            "stuck(0, false); put(0); pay() = 3; ? look(1) = 10; ? look(2) = 0; ? look(12) = 40");
        // A jam at the first coin: it was done, with no coin given.
        s.holds(words,
            TEN_FIFTY + "put(0); refund() = 1; put(1); stuck(1, true); refund() = 0; stuck(1, false); jam(1, 0)",
            "pay() = 0; ? gave({0, 1}) = 0; ? look(2) = 50; ? kind(1, 5) = 1; ? kind(1, 3) = 1");
        s.holds(words,
            TEN_FIFTY + "fill(0, 5); put(1); stuck({0, 1}, true); refund() = 0; ? look(2) = 50",
            "stuck({0, 1}, false); jam(1, 0); pay() = 5; ? look(2) = 0; ? kind(1, 5) = 1; ? gave(0) = 5");
        s.holds(words,
            "coin(10, 9) = 0; coin(20, 9) = 1; fill(0, 4); fill(1, 3); 2* put(0); put(1); stuck({0, 1}, true)",
            "refund() = 0; stuck({0, 1}, false); ? look(2) = 40; mode(1); pay() = 3; ? gave(0) = 2; ? gave(1) = 1");
    }

    private void payRefused() {
        s.section("Promise 13: pay");
        s.holds("NONE, and nothing is done: nothing is OWED",
            TEN_FIFTY + "? pay() = NONE; fill(0, 5); ? pay() = NONE; put(0); ? pay() = NONE; refund() = 1",
            "? pay() = NONE; ? gave(0) = 1");
        s.holds("it is above 999",
            "coin(111, 20) = 0; 9* put(0); stuck(0, true); refund() = 0; ? look(2) = 999; ? pay() = NONE",
            "stuck(0, false); pay() = 9; ? look(2) = 0; ? look(12) = 999");
        s.holds("it is above 999",
            "coin(200, 20) = 0; 4* put(0); stuck(0, true); refund() = 0; stuck(0, false); put(0); stuck(0, true)",
            "refund() = 0; stuck(0, false); ? look(2) = 1000; ? coins(800) = 4; ? pay() = NONE; ? look(2) = 1000",
            "? kind(0, 3) = 5; ? look(12) = 0; fill(0, 15); ? pay() = NONE; put(0); refund() = 1; ? pay() = NONE",
            "? gave(0) = 1");
        s.holds("or it can't be GIVEN.",
            TEN_FIFTY + "fill(0, 4); price(0, 10); put(1); stuck(0, true); buy(0) = 0; ? pay() = NONE",
            "stuck(0, false); drain(0, 1); ? pay() = NONE; ? look(2) = 40; ? kind(0, 3) = 3; ? look(12) = 0",
            "fill(0, 1); pay() = 4");
    }

    private void gave() {
        s.section("Promise 14: gave");
        s.holds("Of the latest buy(), refund(), pay() that was done: how many COINS of KIND k were given",
            WITH_NOTE + "fill(0, 4); price(0, 30); put(1); buy(0) = 2; ? gave(0) = 2; ? gave({1, 2}) = 0",
            "? buy(0) = NONE; ? refund() = NONE; ? pay() = NONE; ? gave(0) = 2; coin(7, 2) = 3; ? gave(3) = 0",
            "put(1); ? gave(0) = 2; refund() = 1; ? gave(0) = 0; ? gave(1) = 1; put(1); stuck(1, true)",
            "refund() = 0; ? gave({0 .. 3}) = 0; stuck(1, false); pay() = 1; ? gave(1) = 1; ? gave({0, 2, 3}) = 0");
        // What came before a jam and what came behind it is given by one and the same call.
        s.holds("Of the latest buy(), refund(), pay() that was done: how many COINS of KIND k were given",
            "coin(10, 20) = 0; coin(20, 20) = 1; coin(50, 20) = 2; fill(0, 9); fill(1, 3); 2* put(2); jam(2, 1)",
            "jam(1, 1); refund() = 5; ? gave(2) = 1; ? gave(1) = 1; ? gave(0) = 3; ? look(2) = 0");
        s.holds("NONE if there is none such.",
            "? gave({-1, 0, 5, 6, min, max}) = NONE; " + WITH_NOTE + "? gave({0 .. 2}) = 0",
            "? gave(" + NO_KIND + ") = NONE",
            "put(0); refund() = 1; ? gave(" + NO_KIND + ") = NONE");
    }
}
