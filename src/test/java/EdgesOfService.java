/** The sentences of promises 23 to 25: what is taken out and counted. */
final class EdgesOfService extends Edges {
    private EdgesOfService(Sentences s) {
        super(s);
    }

    static void all(Sentences s) {
        EdgesOfService service = new EdgesOfService(s);
        service.empty();
        service.drain();
        service.drainRefused();
        service.count();
        service.countRefused();
    }

    private void empty() {
        s.section("Promise 23: empty");
        String words = "THE BOX is emptied: how much.";
        s.holds(words,
            "? empty() = 0; coin(10, 1) = 0; coin(5, 4) = 1; note(100) = 2; price(0, 20); price(1, 100); fill(0, 1)",
            "fill(1, 4); ? empty() = 0; 2* put(0); ? look(6) = 20; buy(0) = 0; price(0, 0); put(2); buy(1) = 0",
            "? look(6) = 120; put(2); empty() = 120; ? look(3) = 2; ? look(1) = 100; ? kind({0 .. 2}, 4) = 0",
            "? kind(0, 3) = 1; ? kind(1, 3) = 4; ? look(14) = 120; ? look(5) = 130; ? empty() = 0; refund() = 0",
            "? look(5) = 30; ? empty() = 0");
        s.holds(words,
            "coin(1, 1) = 0; coin(2, 1) = 1; coin(3, 1) = 2; coin(4, 1) = 3; coin(5, 1) = 4; coin(6, 0) = 5",
            "fill({0 .. 4}, 1); price(0, 3); put({0, 1}); buy(0) = 0; put(2); buy(0) = 0; price(0, 6); put(5)",
            "buy(0) = 0; empty() = 12; ? kind({0 .. 5}, 4) = 0; ? empty() = 0");
        // What a credit brought into the box may go: the refund comes out of the tubes.
        s.holds(words,
            "coin(10, 1) = 0; fill(0, 1); put(0); empty() = 10; ? look(1) = 10; refund() = 1; ? look(2) = 0",
            "? look(5) = 0; ? look(14) = 10");
    }

    private void drain() {
        s.section("Promise 24: drain");
        String words = "So many COINS of KIND k are taken out of its TUBE: true";
        s.holds(words,
            TEN_FIFTY + "fill(0, 10); fill(1, 1); drain(0, 0); ? kind(0, 3) = 10; drain(0, 1); ? kind(0, 3) = 9",
            "? look(14) = 10; drain(0, 9); ? kind(0, 3) = 0; ? look(14) = 100; drain(0, 0); ? kind(1, 3) = 1",
            "? look(5) = 50; ? look(6) = 0; ? coins(10) = NONE");
        s.holds(words,
            "coin(10, 20) = 0; coin(20, 0) = 1; fill(0, 20); stuck(0, true); drain(0, 20); ? kind(0, 3) = 0",
            "? kind(0, 5) = 1; drain(1, 0); ? look(14) = 200");
    }

    private void drainRefused() {
        s.section("Promise 24: drain");
        s.holds("false, and nothing is done: no such COIN",
            WITH_NOTE + "fill({0, 1}, 5); ? drain(" + NO_KIND + ", {0, 1}) = false; ? drain(2, {0, 1}) = false",
            "? look(14) = 0; ? look(5) = 300");
        s.holds("or there are not so many",
            TEN_FIFTY + "? drain({0, 1}, {1, max}) = false; fill(0, 5); ? drain(0, {6, 10, 11, max}) = false",
            "drain(0, 5); ? drain(0, 1) = false; ? look(14) = 50");
        s.holds("n is below 0",
            TEN_FIFTY + "fill(0, 5); ? drain({0, 1}, {-1, -5, -6, min}) = false; ? kind(0, 3) = 5; ? look(14) = 0");
        s.holds("or there is a CREDIT.",
            WITH_NOTE + "fill({0, 1}, 5); put(0); ? drain({0, 1}, {0, 1, 5}) = false; refund() = 1; drain(0, 1)",
            "put(2); ? drain({0, 1}, {0, 1}) = false; refund() = 0; drain(0, 4); ? kind(0, 3) = 0; price(0, 50)",
            "put(1); ? drain(1, 1) = false; buy(0) = 0; drain(1, 6); ? look(14) = 350");
        // What is owed is no credit.
        s.holds("or there is a CREDIT.",
            TEN_FIFTY + "fill(0, 2); put(1); stuck(1, true); refund() = 0; ? look(2) = 50; drain(1, 1); drain(0, 2)");
    }

    private void count() {
        s.section("Promise 25: count");
        String words = "A COUNT of TUBE k finds n (0 .. ROOM): by how much in VALUE it is too few (below 0: too many)";
        s.holds(words,
            TEN_FIFTY + "fill({0, 1}, 5); count(0, 5) = 0; count(0, 3) = 20; ? look(15) = 20; count(1, 10) = -250",
            "? look(15) = -230; count(1, 0) = 500; count(1, 0) = 0; ? look(15) = 270; count(0, 10) = -70",
            "count(0, 0) = 100; ? look(15) = 300; ? look({12, 14}) = 0");
        s.holds(words,
            "coin(200, 20) = 0; coin(20, 0) = 1; count(0, 20) = -4000; count(0, 0) = 4000; count(1, 0) = 0",
            "? count(1, 1) = NONE - 999999; ? look(15) = 0");
        s.holds("so many are in it from then on.",
            TEN_FIFTY + "fill({0, 1}, 5); count(0, 0) = 50; ? kind(0, 3) = 0; ? kind(1, 3) = 5; ? coins(10) = NONE",
            "? look(5) = 250; count(0, 10) = -100; ? kind(0, 3) = 10; ? coins(100) = 2; ? fill(0, 1) = false",
            "stuck(0, true); count(0, 1) = 90; ? kind(0, 3) = 1; ? kind(0, 5) = 1; stuck(0, false); ? coins(10) = 1",
            "fill(0, 9); drain(0, 10); ? kind(0, 3) = 0");
    }

    private void countRefused() {
        s.section("Promise 25: count");
        s.holds("NONE - 999999, and nothing is done: no such COIN or n",
            WITH_NOTE + "fill({0, 1}, 5); ? count(" + NO_KIND + ", {0, 5}) = NONE - 999999",
            "? count(2, {0, 1}) = NONE - 999999; ? count({0, 1}, {-1, 11, 20, min, max}) = NONE - 999999",
            "? kind({0, 1}, 3) = 5; ? look(15) = 0");
        s.holds("or there is a CREDIT.",
            WITH_NOTE + "fill({0, 1}, 5); put(0); ? count({0, 1}, {0, 5, 10}) = NONE - 999999; ? kind(0, 3) = 6",
            "refund() = 1; count(0, 4) = 10; put(2); ? count({0, 1}, {0, 4, 5}) = NONE - 999999; refund() = 0",
            "price(0, 50); put(1); ? count(1, 6) = NONE - 999999; buy(0) = 0; count(1, 6) = 0");
        s.holds("or there is a CREDIT.",
            TEN_FIFTY + "put(1); stuck(1, true); refund() = 0; ? look(2) = 50; count(1, 0) = 50; count(0, 1) = -10");
    }
}
