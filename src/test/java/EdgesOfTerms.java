/** The sentences of the section "Terms". */
final class EdgesOfTerms extends Edges {
    private EdgesOfTerms(Sentences s) {
        super(s);
    }

    static void all(Sentences s) {
        s.section("Terms");
        EdgesOfTerms terms = new EdgesOfTerms(s);
        terms.kinds();
        terms.tubesAndBox();
        terms.notesAndPrices();
        terms.waysAndWhatTheyHave();
        terms.theFewestCoins();
        terms.theFullestTubes();
        terms.severalWays();
        terms.credit();
        terms.takenWithIt();
        terms.creditOf999();
        terms.restOfEachPrice();
        terms.creditLessNote();
        terms.oneNoteAtATime();
        terms.buyingAndRefund();
        terms.giving();
        terms.jamming();
        terms.owing();
        terms.light();
        terms.booksOfTrade();
        terms.booksOfService();
        terms.needAndRoom();
        terms.needOfTheFewest();
        s.is(s.words("The constants: `NONE = -1`: None."), ChangeGiver.NONE, -1);
    }

    private void kinds() {
        s.holds("KINDS 0 .. 5, numbered as they are told: COINS and NOTES",
            "? look(0) = 0; ? kind(0, 0) = NONE - 1; coin(200, 1) = 0; note(7) = 1; ? note(7) = NONE",
            "coin(1, 20) = 2; note(100) = 3; coin(50, 0) = 4; ? look(0) = 5; ? kind(5, 0) = NONE - 1; note(9) = 5",
            "? look(0) = 6; ? coin(3, 1) = NONE; ? note(3) = NONE; ? look(0) = 6",
            "? kind({-1, 6, min, max}, 0) = NONE - 1; ? kind(0, 0) = 200; ? kind(1, 0) = 7; ? kind(2, 0) = 1",
            "? kind(3, 0) = 100; ? kind(4, 0) = 50; ? kind(5, 0) = 9");
        s.holds("of unlike VALUES (1 .. 200)",
            "? coin({0, -1, 201, min, max}, 5) = NONE; ? look(0) = 0; coin(1, 5) = 0; coin(200, 5) = 1",
            "? coin({1, 200}, 5) = NONE; ? note({1, 200}) = NONE; coin(2, 5) = 2; coin(199, 5) = 3; ? look(0) = 4");
        s.holds("of unlike VALUES (1 .. 200)",
            "? note({0, -1, 201, min, max}) = NONE; ? look(0) = 0; note(1) = 0; note(200) = 1",
            "? note({1, 200}) = NONE; ? coin({1, 200}, 5) = NONE; note(2) = 2; note(199) = 3; ? look(0) = 4");
    }

    private void tubesAndBox() {
        s.holds("A COIN has a TUBE with ROOM for 0 .. 20 of them",
            "? coin(10, {-1, 21, min, max}) = NONE; coin(10, 0) = 0; coin(20, 20) = 1; coin(30, 1) = 2",
            "? kind(0, 2) = 0; ? kind(1, 2) = 20; ? kind(2, 2) = 1; fill(0, 0); ? fill(0, 1) = false",
            "? fill(1, 21) = false; fill(1, 20); ? fill(1, 1) = false; fill(2, 1); ? fill(2, 1) = false",
            "? kind(0, 3) = 0; ? kind(1, 3) = 20; ? kind(2, 3) = 1; ? coins(400) = 20; ? coins(430) = 21");
        s.holds("what does not fit goes to THE BOX",
            "coin(10, 2) = 0; coin(5, 20) = 1; coin(40, 0) = 2; fill(0, 1); fill(1, 20); put(0); ? kind(0, 3) = 2",
            "? kind(0, 4) = 0; put(0); ? kind(0, 3) = 2; ? kind(0, 4) = 1; ? look(6) = 10; put(2); ? kind(2, 3) = 0",
            "? kind(2, 4) = 1; ? look(6) = 50; put(1); ? kind(1, 3) = 20; ? kind(1, 4) = 1; ? look(6) = 55",
            "? look(5) = 175");
        s.holds("what does not fit goes to THE BOX",
            "coin(10, 1) = 0; coin(5, 20) = 1; fill(1, 20); stuck(0, true); put(0); ? kind(0, 3) = 1",
            "? kind(0, 4) = 0; put(0); ? kind(0, 3) = 1; ? kind(0, 4) = 1");
        s.holds("from which nothing is given.",
            "coin(10, 0) = 0; coin(5, 4) = 1; note(100) = 2; price(0, 100); fill(1, 2); put(0); ? look(6) = 10",
            "? coins(10) = 2; ? way(10, 0) = 0; refund() = 2; ? gave(0) = 0; ? gave(1) = 2; ? coins(10) = NONE",
            "? givable(999) = 0; put(2); buy(0) = 0; ? look(6) = 110; ? coins({10, 100, 110}) = NONE");
    }

    private void notesAndPrices() {
        s.holds("A NOTE is HELD as long as there is a CREDIT, then it goes to THE BOX.",
            "note(100) = 0; coin(10, 5) = 1; price(0, 100); price(1, 60); fill(1, 4); ? look(3) = NONE; put(0)",
            "? look(3) = 0; ? kind(0, 4) = 0; ? look(6) = 0; ? empty() = 0; put(1); ? look(3) = 0; ? buy(2) = NONE",
            "? look(3) = 0; buy(1) = 5; ? look(3) = NONE; ? kind(0, 4) = 1; ? look(6) = 100; ? kind(0, 3) = 0");
        s.holds("A NOTE is HELD as long as there is a CREDIT, then it goes to THE BOX.",
            "coin(1, 1) = 0; coin(2, 1) = 1; coin(3, 1) = 2; coin(4, 1) = 3; coin(5, 1) = 4; note(6) = 5",
            "price(5, 6); put(5); ? look(3) = 5; buy(5) = 0; ? look(3) = NONE; ? kind(5, 4) = 1; ? look(6) = 6");
        s.holds("PRICES 0 .. 5 (1 .. 300, at first none).",
            "? priced({0 .. 5}) = 0; ? price({-1, 6, min, max}, 10) = false",
            "? price(0, {-1, 301, min, max}) = false; price(0, 1); price(5, 300); ? priced(0) = 1",
            "? priced(5) = 300; ? priced({1 .. 4}) = 0; price(0, 300); price(5, 1); ? priced(0) = 300",
            "? priced(5) = 1; ? price(0, 301) = false");
    }

    private void waysAndWhatTheyHave() {
        s.holds("A TUBE GIVES unless it is STUCK.",
            TEN_FIFTY + "fill({0, 1}, 1); ? coins(10) = 1; ? coins(60) = 2; stuck(0, true)",
            "? coins({10, 60}) = NONE; ? coins(50) = 1; ? givable(999) = 1; stuck(0, false); ? coins(10) = 1",
            "? givable(999) = 3");
        s.holds("A WAY to give a sum: of each COIN a number, not above what is in its TUBE",
            TEN_FIFTY + "? coins({10, 50}) = NONE; fill(0, 3); fill(1, 1); ? coins(30) = 3; ? coins(40) = NONE",
            "? coins(80) = 4; ? way(80, 0) = 3; ? way(80, 1) = 1; ? coins({90, 100}) = NONE; ? givable(999) = 7");
        s.holds("A WAY to give a sum: of each COIN a number, not above what is in its TUBE",
            "coin(10, 20) = 0; fill(0, 20); ? coins(200) = 20; ? way(200, 0) = 20; ? coins(210) = NONE; drain(0, 1)",
            "? coins(200) = NONE; ? coins(190) = 19");
        s.holds("0 of one that is STUCK",
            TEN_FIFTY + "fill(0, 10); fill(1, 2); ? way(100, 1) = 2; stuck(1, true); ? way(100, 1) = 0",
            "? way(100, 0) = 10; ? way(110, {0, 1}) = NONE; stuck(0, true); ? way(0, {0, 1}) = 0",
            "? coins(100) = NONE");
        s.holds("whose VALUES are together the sum.",
            "coin(50, 5) = 0; coin(7, 5) = 1; fill(0, 2); fill(1, 1)",
            "? coins({49, 51, 6, 8, 56, 58, 93, 106}) = NONE; ? coins({50, 7}) = 1; ? coins({57, 100}) = 2",
            "? coins(107) = 3; ? coins({108, 150}) = NONE; ? givable(999) = 5");
        s.holds("It can be GIVEN if there is a WAY (0 by none of any).",
            "? coins(0) = 0; ? coins(1) = NONE; note(100) = 0; ? coins(0) = 0; ? way(0, 0) = 0; ? coins(100) = NONE",
            "coin(10, 5) = 1; ? coins(0) = 0; ? way(0, 1) = 0; fill(1, 5); ? coins(0) = 0; ? way(0, 1) = 0",
            "stuck(1, true); ? coins(0) = 0; mode(1); ? coins(0) = 0; ? way(0, {0, 1}) = 0; stuck(1, false)",
            "? coins(0) = 0; ? givable(0) = 0; ? coins(10) = 1");
    }

    private void theFewestCoins() {
        s.holds("THE WAY: in MODE 0 (at first) of all the one with the fewest COINS",
            "coin(1, 20) = 0; coin(30, 20) = 1; coin(40, 20) = 2; ? look(4) = 0; fill(0, 20); fill({1, 2}, 2)",
            "? coins(60) = 2; ? way(60, 1) = 2; ? way(60, {0, 2}) = 0; mode(1); mode(0); ? coins(60) = 2",
            "drain(1, 1); ? coins(60) = 21; ? way(60, 0) = 20; ? way(60, 2) = 1; ? way(60, 1) = 0");
        // 60 = 30 + 30, not 40 + 10 + 10
        s.holds("THE WAY: in MODE 0 (at first) of all the one with the fewest COINS",
            "coin(10, 9) = 0; coin(30, 9) = 1; coin(40, 9) = 2; fill({0 .. 2}, 3); ? coins(60) = 2",
            "? way(60, 1) = 2; ? way(60, {0, 2}) = 0");
        s.holds("THE WAY: in MODE 0 (at first) of all the one with the fewest COINS",
            "coin(10, 9) = 0; coin(20, 9) = 1; fill(0, 6); fill(1, 3); ? coins(40) = 2; ? coins(60) = 3",
            "? coins(80) = 5; 4* put(0) = 1; refund() = 2; ? gave(0) = 0; ? gave(1) = 2");
    }

    private void theFullestTubes() {
        String words = "in MODE 1 of those that leave the most in that TUBE (of those not STUCK) "
            + "that then has the fewest the one with the fewest COINS";
        // 40: two tens and a twenty leave 4 and 2; four tens leave 2 and 3, two twenties 6 and 1.
        s.holds(words,
            "coin(10, 20) = 0; coin(20, 20) = 1; fill(0, 6); fill(1, 3); ? way(40, 1) = 2; mode(1); ? coins(40) = 3",
            "? way(40, 0) = 2; ? way(40, 1) = 1; ? coins(120) = 9; ? coins(130) = NONE; ? coins(0) = 0",
            "note(100) = 2; ? coins(40) = 3; coin(50, 0) = 3; ? coins(40) = 2; stuck(3, true); ? coins(40) = 3",
            "stuck(1, true); ? coins(40) = 4; stuck(0, true); ? coins(40) = NONE; ? coins(0) = 0");
        // The tube that has the fewest from the start is left as it is, and if it is empty it is no hindrance.
        s.holds(words,
            "coin(10, 9) = 0; coin(20, 9) = 1; coin(50, 9) = 2; fill(0, 5); fill(1, 4); fill(2, 1); mode(1)",
            "? coins(50) = 3; ? way(50, 0) = 1; ? way(50, 1) = 2; ? way(50, 2) = 0; ? coins(130) = 5",
            "? coins(180) = 10; drain(2, 1); ? coins(50) = 3; ? coins(80) = 4; ? coins(130) = 9; fill(2, 9)",
            "? coins(50) = 1; ? way(50, 2) = 1");
        // One fifty is the fewest whatever is given, so the others may go down to one as well.
        s.holds(words,
            "coin(50, 9) = 0; coin(10, 9) = 1; coin(20, 9) = 2; fill(0, 1); fill(1, 6); fill(2, 3); mode(1)",
            "? coins(40) = 2; ? way(40, 2) = 2; fill(0, 1); ? coins(40) = 3; ? way(40, 1) = 2; stuck(0, true)",
            "? coins(40) = 3; ? coins(60) = 5; ? way(60, 1) = 4; ? way(60, 2) = 1");
        s.holds(words,
            "coin(60, 9) = 0; coin(50, 9) = 1; coin(40, 9) = 2; coin(30, 9) = 3; coin(20, 9) = 4; coin(10, 9) = 5",
            "fill({0 .. 5}, 3); mode(1); ? coins(210) = 6; ? way(210, {0 .. 5}) = 1; ? coins(630) = 18",
            "? coins(620) = 17; ? coins(640) = NONE; ? coins(0) = 0");
        s.holds(words,
            "coin(10, 20) = 0; coin(20, 20) = 1; fill({0, 1}, 20); mode(1); ? coins(600) = 40; ? coins(590) = 39",
            "? way(590, 0) = 19; ? way(590, 1) = 20; ? coins(610) = NONE; ? coins(30) = 2; ? coins(60) = 4",
            "? way(60, 0) = 2");
    }

    private void severalWays() {
        String words = "of several the one with the most COINS of the KIND of the greatest VALUE, "
            + "then of the next one .. .";
        // 80 = 50 + 30 = 40 + 40; 60 = 50 + 10 = 30 + 30; 90 = 40 + 40 + 10 = 30 + 30 + 30
        s.holds(words,
            "coin(30, 20) = 0; coin(10, 20) = 1; coin(50, 20) = 2; coin(40, 20) = 3; fill({0 .. 3}, 4)",
            "? coins(80) = 2; ? way(80, 2) = 1; ? way(80, 0) = 1; ? way(80, 3) = 0; ? way(60, {1, 2}) = 1",
            "? way(60, 0) = 0; stuck(2, true); ? coins(90) = 3; ? way(90, 3) = 2; ? way(90, 1) = 1",
            "? way(90, 0) = 0");
        // 50 = 40 + 10 = 30 + 20, whichever was told first
        s.holds(words,
            "coin(40, 9) = 0; coin(30, 9) = 1; coin(20, 9) = 2; coin(10, 9) = 3; fill({0 .. 3}, 9)",
            "? way(50, {0, 3}) = 1; ? way(50, {1, 2}) = 0");
        s.holds(words,
            "coin(10, 9) = 0; coin(20, 9) = 1; coin(30, 9) = 2; coin(40, 9) = 3; fill({0 .. 3}, 9)",
            "? way(50, {0, 3}) = 1; ? way(50, {1, 2}) = 0");
        // 120 = 60 + 40 + 20 = 60 + 30 + 30 = 40 + 40 + 40
        s.holds(words,
            "coin(30, 9) = 0; coin(20, 9) = 1; coin(40, 9) = 2; coin(60, 1) = 3; fill({0 .. 2}, 9); fill(3, 1)",
            "? coins(120) = 3; ? way(120, {1 .. 3}) = 1; ? way(120, 0) = 0");
        // 210 = 100 + 60 + 40 + 10 = 100 + 60 + 30 + 20
        s.holds(words,
            "coin(10, 1) = 0; coin(20, 1) = 1; coin(30, 1) = 2; coin(100, 1) = 3; coin(60, 1) = 4; coin(40, 1) = 5",
            "fill({0 .. 5}, 1); ? coins(210) = 4; ? way(210, {0, 3 .. 5}) = 1; ? way(210, {1, 2}) = 0");
        s.holds(words,
            "coin(30, 10) = 0; coin(20, 10) = 1; coin(40, 10) = 2; coin(10, 10) = 3; fill({0 .. 3}, 10); mode(1)",
            "? coins(50) = 2; ? way(50, {2, 3}) = 1; ? way(50, {0, 1}) = 0");
    }

    private void credit() {
        s.holds("CREDIT: the VALUES of what was put in since the last BUYING or REFUND.",
            WITH_NOTE + "price(0, 30); fill(0, 10); fill(1, 2); ? look(1) = 0; put(0); ? look(1) = 10; put(1)",
            "? look(1) = 60; put(2); ? look(1) = 160; ? put(2) = 0; ? look(1) = 160; fill(1, 1); ? look(1) = 160",
            "empty() = 10; ? look(1) = 160; buy(0) = 5; ? look(1) = 0; put(0); ? look(1) = 10; refund() = 1",
            "? look(1) = 0");
    }

    private void takenWithIt() {
        String words = "A COIN or NOTE is TAKEN just if with it (in its TUBE, or THE BOX; a NOTE HELD):";
        s.holds(words, "coin(10, 1) = 0; put(0); ? kind(0, 3) = 1; ? put(0) = 0; ? takes(0) = 0; ? look(1) = 10");
        s.holds(words, "coin(10, 1) = 0; fill(0, 1); put(0); ? kind(0, 3) = 1; ? kind(0, 4) = 1; ? put(0) = 0");
        s.holds(words,
            "coin(10, 0) = 0; ? put(0) = 0; coin(5, 2) = 1; fill(1, 1); ? put(0) = 0; fill(1, 1); put(0)",
            "? put(0) = 0");
        s.holds(words, "coin(20, 5) = 0; price(0, 20); put(0); put(0); ? look(1) = 40; buy(0) = 1; ? kind(0, 3) = 1");
        s.holds(words,
            "coin(20, 5) = 0; stuck(0, true); ? put(0) = 0; coin(10, 2) = 1; fill(1, 2); put(0); ? kind(0, 3) = 1");
        s.holds(words,
            "note(200) = 0; price(0, 200); put(0); ? look(3) = 0; refund() = 0; price(1, 199); ? put(0) = 0",
            "coin(1, 1) = 1; ? put(0) = 0; fill(1, 1); put(0); buy(1) = 1; ? look(6) = 200");
    }

    private void creditOf999() {
        s.holds("CREDIT is 999 at most",
            "coin(200, 20) = 0; coin(199, 20) = 1; coin(1, 20) = 2; coin(2, 20) = 3; 4* put(0); ? put(0) = 0",
            "? takes(0) = 0; put(1); ? look(1) = 999; ? put({0 .. 3}) = 0; ? takes({0 .. 3}) = 0; refund() = 5",
            "? look(12) = 999; put(0)");
        s.holds("CREDIT is 999 at most",
            "coin(200, 20) = 0; coin(198, 20) = 1; coin(1, 20) = 2; coin(2, 20) = 3; 4* put(0); put(1)",
            "? look(1) = 998; ? put(3) = 0; ? takes(3) = 0; ? takes(2) = 1; put(2); ? look(1) = 999; ? put(2) = 0");
        s.holds("CREDIT is 999 at most",
            "note(200) = 0; note(199) = 1; ? coin(200, 20) = NONE; coin(150, 20) = 2; coin(50, 20) = 3; 5* put(2)",
            "put(3); ? look(1) = 800; ? put(0) = 0; ? takes(0) = 0; put(1); ? look(1) = 999; ? put(3) = 0",
            "refund() = 6");
    }

    private void restOfEachPrice() {
        String words = "for each PRICE not above CREDIT the rest can be GIVEN";
        for (int p = 0; p < 6; p++) {
            s.holds(words,
                TEN_FIFTY + "price(" + p + ", 30); ? put(1) = 0; fill(0, 1); ? put(1) = 0; fill(0, 1); put(1)",
                "put(1); ? look(1) = 100; buy(" + p + ") = 3");
        }
        s.holds(words,
            "note(100) = 0; price(0, 100); put(0); refund() = 0; price(1, 101); put(0); refund() = 0; price(2, 99)",
            "? put(0) = 0; ? takes(0) = 0; price(2, 0); ? takes(0) = 1; put(0); ? look(3) = 0");
        // 5 can't be given, though 19 can, and 50 itself is more than 5; nor can 49 and 62.
        s.holds(words,
            "coin(50, 9) = 0; coin(19, 9) = 1; fill({0, 1}, 9); price(0, 45); ? put(0) = 0; ? takes(0) = 0; put(1)");
        s.holds(words,
            "coin(50, 9) = 0; coin(63, 9) = 1; fill({0, 1}, 8); price(0, 1); ? put({0, 1}) = 0; ? light() = true");
        s.holds(words,
            "note(100) = 0; coin(200, 5) = 1; coin(1, 1) = 2; price(3, 300); put(1); put(0); ? look(1) = 300",
            "refund() = 1; price(4, 299); put(1); ? put(0) = 0; fill(2, 1); put(0); buy(4) = 1; ? gave(2) = 1");
        s.holds(words,
            TEN_FIFTY + "price(0, 50); price(5, 40); ? put(1) = 0; fill(0, 1); put(1); put(1); ? look(1) = 100",
            "buy(5) = 2");
    }

    private void creditLessNote() {
        String words = "and CREDIT, less the VALUE of the NOTE that is HELD, can be GIVEN.";
        s.holds(words,
            "note(100) = 0; coin(10, 0) = 1; coin(5, 2) = 2; put(0); ? put(1) = 0; fill(2, 1); ? put(1) = 0",
            "fill(2, 1); put(1); ? look(1) = 110; refund() = 2; ? look(12) = 110; ? look(3) = NONE");
        s.holds(words,
            "coin(10, 5) = 0; stuck(0, true); ? put(0) = 0; ? takes(0) = 0; stuck(0, false); put(0)",
            "? note(100) = NONE; stuck(0, true); ? put(0) = 0; ? look(1) = 10");
        // With something put in before, a note too needs that what is not of it can be given.
        s.holds(words,
            "coin(10, 5) = 0; note(100) = 1; put(0); stuck(0, true); ? put(1) = 0; stuck(0, false); put(1)",
            "? look(3) = 1");
    }

    private void oneNoteAtATime() {
        s.holds("No NOTE is TAKEN while one is HELD.",
            "note(100) = 0; note(50) = 1; coin(10, 9) = 2; put(0); ? put({0, 1}) = 0; ? takes({0, 1}) = 0",
            "? takes(2) = 1; put(2); ? put({0, 1}) = 0; ? look(3) = 0; refund() = 1; ? takes({0, 1}) = 1; put(1)",
            "? put({0, 1}) = 0; ? look(3) = 1; refund() = 0; price(0, 50); put(1); buy(0) = 0; ? takes(1) = 1",
            "put(1); ? takes(1) = 0");
        s.holds("Else it falls through.",
            WITH_NOTE + "price(0, 30); ? put(1) = 0; ? put(2) = 0; ? look({1, 5, 6, 10}) = 0",
            "? kind({0 .. 2}, {3, 4}) = 0; ? look(3) = NONE; fill(0, 1); put(0); ? put(1) = 0; ? put(2) = 0",
            "? look({1, 10}) = 10; ? look(5) = 20");
    }

    private void buyingAndRefund() {
        s.holds("BUYING at a PRICE not above CREDIT: the NOTE goes to THE BOX, the rest is to be given; CREDIT is 0.",
            WITH_NOTE + "fill(0, 5); fill(1, 1); price(0, 30); price(1, 100); price(2, 101); put(2)",
            "? buy(2) = NONE; buy(1) = 0; ? kind(2, 4) = 1; ? look(3) = NONE; ? look(1) = 0; ? buy(1) = NONE",
            "put(2); buy(0) = 3; ? kind(2, 4) = 2; ? gave(0) = 2; ? gave(1) = 1; ? gave(2) = 0; ? look(1) = 0",
            "? look(6) = 200; ? buy(0) = NONE");
        s.holds("REFUND: the NOTE is given back, CREDIT less its VALUE is to be given; CREDIT is 0.",
            WITH_NOTE + "put(0); put(2); refund() = 1; ? gave(0) = 1; ? gave({1, 2}) = 0; ? kind(2, 4) = 0",
            "? look(3) = NONE; ? look(1) = 0; ? look(12) = 110; ? refund() = NONE; put(2); refund() = 0",
            "? gave(0) = 0; ? look(12) = 210; ? look({1, 5, 6}) = 0; put(1); refund() = 1; ? look(12) = 260");
    }

    private void giving() {
        String words = "GIVING a sum: by THE WAY, COIN by COIN, of the greatest VALUE first.";
        // Where a tube jams shows what had been given by then.
        s.holds(words,
            TEN_FIFTY + "fill(0, 2); put({0, 1}); jam(1, 0); refund() = 0; ? gave({0, 1}) = 0; ? kind(0, 3) = 3",
            "? look(2) = 60");
        s.holds(words,
            TEN_FIFTY + "fill(0, 2); put({0, 1}); jam(0, 0); refund() = 1; ? gave(1) = 1; ? gave(0) = 0",
            "? look(2) = 10");
        s.holds(words,
            "coin(50, 10) = 0; coin(10, 10) = 1; fill(1, 2); put({0, 1}); jam(0, 0); refund() = 0",
            "? gave({0, 1}) = 0; ? look(2) = 60");
        s.holds(words,
            "coin(50, 10) = 0; coin(10, 10) = 1; coin(20, 10) = 2; fill(1, 2); put({0 .. 2}); jam(2, 0)",
            "refund() = 4; ? gave(0) = 1; ? gave(1) = 3; ? gave(2) = 0; ? look(2) = 0; ? kind(2, 5) = 1");
        s.holds(words,
            TEN_FIFTY + "fill(0, 5); 2* put(1); jam(1, 1); refund() = 6; ? gave(1) = 1; ? gave(0) = 5",
            "? kind(1, 3) = 1");
    }

    private void jamming() {
        String words = "A TUBE that JAMS as it should give a COIN is STUCK from then on (that COIN stays in it):";
        s.holds(words,
            TEN_FIFTY + "fill(0, 10); put(1); jam(1, 0); ? kind(1, 5) = 0; refund() = 5; ? kind(1, 5) = 1",
            "? kind(1, 3) = 1; ? kind(1, 6) = NONE; ? coins(50) = 5; ? way(50, 1) = 0; ? stuck(1, true) = false",
            "? look(5) = 100; stuck(1, false); ? coins(50) = 1; put(1); refund() = 1; ? gave(1) = 1",
            "? kind(1, 5) = 0");
        s.holds(words,
            TEN_FIFTY + "fill(0, 10); put(1); jam(0, 0); refund() = 1; ? kind(0, 5) = 0; ? kind(0, 6) = 0",
            "? coins(10) = 1");
        s.holds(words,
            TEN_FIFTY + "put(1); jam(1, 1); refund() = 1; ? kind(1, 5) = 0; ? kind(1, 6) = 0; ? look(2) = 0");
        s.holds("for what is left there is a WAY anew",
            "coin(16, 20) = 0; coin(12, 20) = 1; coin(8, 20) = 2; coin(4, 20) = 3; coin(2, 20) = 4; coin(1, 20) = 5",
            "fill({0 .. 5}, 17); jam({0 .. 4}, 0); put(0); refund() = 16; ? gave(5) = 16; ? look(2) = 0",
            "? kind({0 .. 4}, 5) = 1; ? kind(5, 5) = 0; ? kind(0, 3) = 18; ? kind({1 .. 4}, 3) = 17",
            "? kind(5, 3) = 1");
        s.holds("for what is left there is a WAY anew",
            "coin(10, 20) = 0; coin(20, 20) = 1; coin(50, 20) = 2; fill(0, 5); fill(1, 4); mode(1); put(2)",
            "jam(1, 1); refund() = 4; ? gave(0) = 3; ? gave(1) = 1; ? gave(2) = 0; ? kind(2, 3) = 1; ? look(2) = 0");
        // 20 of 60 came before it jammed: only 40 are left, and there are tens for them.
        s.holds("for what is left there is a WAY anew",
            "coin(10, 20) = 0; coin(20, 20) = 1; fill(0, 4); 3* put(1); jam(1, 1); refund() = 5; ? gave(0) = 4",
            "? gave(1) = 1");
    }

    private void owing() {
        String words = "if there is none, what is left is OWED.";
        s.holds(words,
            TEN_FIFTY + "put(1); stuck(1, true); refund() = 0; ? look(2) = 50; ? look(1) = 0; ? look(5) = 50");
        s.holds(words,
            TEN_FIFTY + "fill(0, 4); put(1); jam(1, 0); refund() = 0; ? look(2) = 50; ? gave(0) = 0",
            "? kind(0, 3) = 4; stuck(1, false); put(1); jam(1, 0); refund() = 0; ? look(2) = 100; ? look(12) = 0");
        s.holds(words,
            TEN_FIFTY + "fill(0, 9); put(1); jam(1, 0); jam(0, 3); refund() = 3; ? gave(0) = 3; ? look(2) = 20",
            "? look(12) = 30; ? kind({0, 1}, 5) = 1; ? kind(0, 3) = 6");
        s.holds(words,
            "coin(16, 20) = 0; coin(12, 20) = 1; coin(8, 20) = 2; coin(4, 20) = 3; coin(2, 20) = 4; coin(1, 20) = 5",
            "fill({0 .. 5}, 17); jam({0 .. 4}, 0); jam(5, 3); put(0); refund() = 3; ? look(2) = 13",
            "? kind({0 .. 5}, 5) = 1");
        s.holds(words,
            WITH_NOTE + "price(0, 40); fill(0, 1); fill(1, 1); put(2); stuck(0, true); buy(0) = 0; ? look(2) = 60",
            "? kind(2, 4) = 1; ? look(1) = 0; ? look(3) = NONE; ? look(11) = 40; ? look(12) = 0");
    }

    private void light() {
        String words = "THE LIGHT is on, if some KIND would not be TAKEN now, were CREDIT 0 and no NOTE HELD.";
        s.holds(words,
            "? light() = false; " + WITH_NOTE + "? light() = false; price(0, 30); ? light() = true; fill(0, 2)",
            "? light() = true; ? takes({0, 1}) = 1; ? takes(2) = 0; fill(1, 1); ? light() = false; stuck(1, true)",
            "? light() = true");
        s.holds(words, "note(100) = 0; coin(50, 1) = 1; put(0); ? takes(0) = 0; ? light() = false");
        s.holds(words, "coin(200, 20) = 0; 4* put(0); ? takes(0) = 0; ? light() = false");
        // Now, with what the credit has brought into the tubes: a ten for the 50 at 40.
        s.holds(words,
            TEN_FIFTY + "price(0, 40); ? light() = true; put(0); ? light() = false; refund() = 1; ? light() = true");
        s.holds(words,
            "coin(10, 0) = 0; ? light() = true; coin(5, 2) = 1; ? light() = true; fill(1, 1); ? light() = true",
            "fill(1, 1); ? light() = false; stuck(1, true); ? light() = true");
    }

    private void booksOfTrade() {
        s.holds("BOOKS: PUT (VALUES that were TAKEN)",
            WITH_NOTE + "price(0, 30); ? look(10) = 0; ? put(1) = 0; ? look(10) = 0; put(0); ? look(10) = 10",
            "fill(0, 9); ? look(10) = 10; put(2); ? look(10) = 110; ? put(2) = 0; refund() = 1; ? look(10) = 110");
        s.holds("SOLD (PRICES)",
            TEN_FIFTY + "fill(0, 4); price(0, 30); price(1, 50); put(1); ? look(11) = 0; refund() = 1",
            "? look(11) = 0; put(1); buy(0) = 2; ? look(11) = 30; ? buy(0) = NONE; ? look(11) = 30; put(1)",
            "buy(1) = 0; ? look(11) = 80");
        s.holds("OUT (VALUES given: rests, REFUNDS, what was OWED, NOTES given back)",
            WITH_NOTE + "fill(0, 4); price(0, 30); put(1); ? look(12) = 0; buy(0) = 2; ? look(12) = 20; put(1)",
            "refund() = 1; ? look(12) = 70; put(1); stuck(1, true); refund() = 0; ? look(12) = 70; stuck(1, false)",
            "pay() = 1; ? look(12) = 120; price(0, 0); put(2); ? look(12) = 120; refund() = 0; ? look(12) = 220",
            "put(0); jam(0, 0); refund() = 0; ? look(12) = 220");
    }

    private void booksOfService() {
        s.holds("FILLED (VALUES that were filled into TUBES)",
            TEN_FIFTY + "? look(13) = 0; fill(0, 0); ? look(13) = 0; fill(0, 10); ? look(13) = 100",
            "? fill(0, 1) = false; fill(1, 1); ? look(13) = 150; put(0); ? look(13) = 150; refund() = 1",
            "count(1, 3) = -100; ? look(13) = 150");
        s.holds("EMPTIED (VALUES that were taken out of THE BOX and TUBES)",
            "coin(10, 1) = 0; note(100) = 1; price(0, 100); price(1, 10); fill(0, 1); ? look(14) = 0; put(0)",
            "buy(1) = 0; empty() = 10; ? look(14) = 10; drain(0, 1); ? look(14) = 20; price(1, 0); put(1)",
            "? empty() = 0; ? look(14) = 20; buy(0) = 0; empty() = 100; ? look(14) = 120; put(1); refund() = 0",
            "? empty() = 0; ? look(14) = 120");
        s.holds("LOST (what COUNTS found too few, less what was too many).",
            TEN_FIFTY + "fill(0, 5); ? look(15) = 0; count(0, 5) = 0; ? look(15) = 0; count(0, 2) = 30",
            "? look(15) = 30; count(1, 1) = -50; ? look(15) = -20; count(1, 0) = 50; ? look(15) = 30",
            "count(0, 10) = -80; ? look(15) = -50; drain(0, 1); ? look(15) = -50");
        s.holds("HAS: VALUES of all in TUBES, in THE BOX, of the NOTE that is HELD.",
            "coin(10, 1) = 0; coin(5, 4) = 1; note(100) = 2; ? look(5) = 0; fill(0, 1); ? look(5) = 10; fill(1, 4)",
            "? look(5) = 30; put(0); ? look(6) = 10; ? look(5) = 40; put(2); ? look(6) = 10; ? look(5) = 140",
            "stuck(0, true); ? look(5) = 140; empty() = 10; ? look(5) = 130; refund() = 2; ? look(5) = 20",
            "? look(2) = 0");
    }

    private void needAndRoom() {
        String words = "NEED: of all numbers of COINS that could be filled into TUBES (as far as there is ROOM)";
        s.holds(words,
            "coin(10, 3) = 0; note(50) = 1; price(0, 10); ? need({0, 10, 11}) = NONE; fill(0, 1); ? need(0) = NONE");
        s.holds(words,
            "coin(10, 4) = 0; note(50) = 1; price(0, 10); ? need({0, 10}) = 4; ? need(11) = 0; fill(0, 4)",
            "? need({0, 10}) = 0");
        s.holds(words,
            "coin(20, 1) = 0; coin(10, 9) = 1; note(60) = 2; price(0, 20); ? need(10) = 1; ? need(11) = 2",
            "? need(0) = 3; fill(0, 1); ? need(10) = 0; ? need(11) = 2; stuck(0, true); ? need(0) = 4",
            "? need(10) = 0; ? need(11) = 4");
        s.holds(words,
            "coin(20, 2) = 0; coin(10, 9) = 1; note(60) = 2; price(0, 20); ? need(10) = 2; ? need(11) = 0",
            "? need(0) = 2");
        s.holds(words,
            "coin(10, 0) = 0; coin(5, 2) = 1; ? need(0) = 2; ? need(10) = 0; ? need(11) = 2; fill(1, 2)",
            "? need(0) = 0");
        s.holds("with which THE LIGHT would be off",
            WITH_NOTE + "price(0, 30); ? light() = true; ? need(0) = 3; ? need(10) = 2; ? need(11) = 1",
            "? need(12) = 0; fill(0, 2); fill(1, 1); ? light() = false; ? need({0, 10 .. 12}) = 0",
            "? need(13) = NONE");
        s.holds("with which THE LIGHT would be off",
            "coin(10, 9) = 0; coin(50, 9) = 1; price(0, 25); ? light() = true; ? need({0, 10, 11}) = NONE",
            "price(0, 0); ? need({0, 10, 11}) = 0");
    }

    private void needOfTheFewest() {
        s.holds("those of the fewest COINS (4 at most)",
            "coin(10, 20) = 0; note(50) = 1; price(0, 10); ? need({0, 10}) = 4; note(60) = 2",
            "? need({0, 10 .. 12}) = NONE; put(0); ? need({0, 10}) = 4; refund() = 1; ? need(0) = NONE; fill(0, 1)",
            "? need(0) = 4; fill(0, 3); ? need(0) = 1; fill(0, 1); ? need(0) = 0");
        String words = "of several those with the most of KIND 0, then of KIND 1 ..";
        // 20 (of 30), 10 (of 20) and 40 (of 50) must be given: 30 + 10 + 10, 30 + 20 + 10, 20 + 20 + 10, 20 + 10 + 10
        s.holds(words,
            "coin(30, 9) = 0; coin(10, 9) = 1; coin(20, 9) = 2; note(50) = 3; price(0, 10); ? need(0) = 3",
            "? need(10) = 1; ? need(11) = 2; ? need(12) = 0; ? need(13) = 0");
        // 10 (of 30) and 40 (of 60): 20 + 20 + 10, 20 + 10 + 10
        s.holds(words,
            "coin(20, 9) = 0; coin(10, 9) = 1; note(30) = 2; note(60) = 3; price(0, 20); ? need(0) = 3",
            "? need(10) = 2; ? need(11) = 1");
        s.holds(words,
            "coin(10, 9) = 0; coin(20, 9) = 1; note(30) = 2; note(60) = 3; price(0, 20); ? need(0) = 3",
            "? need(10) = 2; ? need(11) = 1");
    }
}
