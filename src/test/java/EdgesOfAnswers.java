/** The sentences of promises 15 to 22: what can be asked. */
final class EdgesOfAnswers extends Edges {
    private static final String NO_SUM = "{-1, 1000, 1001, min, max}";
    // Tubes out of which every sum 1 .. 999 can be given.
    private static final String ALL_SUMS = "coin(1, 20) = 0; coin(20, 20) = 1; coin(200, 20) = 2; fill({0 .. 2}, 20);";

    private EdgesOfAnswers(Sentences s) {
        super(s);
    }

    static void all(Sentences s) {
        EdgesOfAnswers answers = new EdgesOfAnswers(s);
        answers.way();
        answers.coins();
        answers.givable();
        answers.light();
        answers.need();
        answers.needRefused();
        answers.look();
        answers.kind();
        answers.priced();
    }

    private void way() {
        s.section("Promise 15: way");
        s.holds("How many COINS of KIND k THE WAY to give a sum (0 .. 999) has now",
            WITH_NOTE + "fill(0, 5); fill(1, 2); ? way(0, {0 .. 2}) = 0; ? way(70, 0) = 2; ? way(70, 1) = 1",
            "? way(70, 2) = 0; ? way(150, 0) = 5; ? way(150, 1) = 2; ? kind(0, 3) = 5; put(1); ? way(150, 0) = 0",
            "? way(150, 1) = 3; stuck(1, true); ? way(50, 0) = 5; ? way(50, 1) = 0; mode(1); ? way(50, 0) = 5");
        s.holds("How many COINS of KIND k THE WAY to give a sum (0 .. 999) has now",
            ALL_SUMS + "? way(999, 2) = 4; ? way(999, 1) = 9; ? way(999, 0) = 19; ? way(998, 0) = 18",
            "? way(1, 0) = 1; ? way(1, {1, 2}) = 0");
        s.holds("NONE: it can't be GIVEN",
            WITH_NOTE + "? way(10, {0 .. 2}) = NONE; fill(0, 5); fill(1, 2)",
            "? way({1, 5, 9, 11, 160, 999}, {0 .. 2}) = NONE; ? way(100, 1) = 2; stuck(1, true)",
            "? way({60, 100}, {0 .. 2}) = NONE; put(0); ? way(60, 0) = 6");
        s.holds("or one can't be.",
            WITH_NOTE + "fill(0, 5); ? way({0, 10}, " + NO_KIND + ") = NONE",
            "? way(" + NO_SUM + ", {0 .. 2}) = NONE; ? way(" + NO_SUM + ", {-1, 3}) = NONE");
        s.holds("or one can't be.",
            ALL_SUMS + "? way(999, 2) = 4; ? way(" + NO_SUM + ", {0 .. 2}) = NONE; ? way(999, {3, -1}) = NONE");
    }

    private void coins() {
        s.section("Promise 16: coins");
        s.holds("How many COINS it has",
            WITH_NOTE + "? coins(0) = 0; fill(0, 5); fill(1, 2); ? coins(0) = 0; ? coins(10) = 1; ? coins(140) = 6",
            "? coins(150) = 7; ? kind(0, 3) = 5; mode(1); ? coins(50) = 1; put(1); stuck(1, true); ? coins(50) = 5");
        s.holds("How many COINS it has",
            ALL_SUMS + "? coins(999) = 32; ? coins(998) = 31; ? coins(1) = 1; mode(1); ? coins(999) = 32");
        s.holds("NONE likewise.",
            "? coins(0) = 0; ? coins(1) = NONE; " + WITH_NOTE + "fill(0, 5); fill(1, 2)",
            "? coins(" + NO_SUM + ") = NONE",
            "? coins({1, 9, 11, 160, 999}) = NONE; stuck(1, true); ? coins({60, 100}) = NONE");
        s.holds("NONE likewise.", ALL_SUMS + "? coins(999) = 32; ? coins(" + NO_SUM + ") = NONE");
    }

    private void givable() {
        s.section("Promise 17: givable");
        s.holds("How many of the sums 1 .. n (n 0 .. 999) can be GIVEN now",
            WITH_NOTE + "? givable({0, 1, 999}) = 0; fill(0, 5); fill(1, 2); ? givable({0, 9}) = 0",
            "? givable({10, 19}) = 1; ? givable(149) = 14; ? givable({150, 999}) = 15; mode(1); ? givable(999) = 15",
            "put(0); ? givable(999) = 16; stuck(1, true); ? givable(999) = 6; stuck(0, true)",
            "? givable({0, 999}) = 0");
        s.holds("How many of the sums 1 .. n (n 0 .. 999) can be GIVEN now",
            ALL_SUMS + "? givable(0) = 0; ? givable(1) = 1; ? givable(998) = 998; ? givable(999) = 999",
            "coin(2, 1) = 3; ? givable(999) = 999");
        // A sum by two ways is one sum; 999 counts, what is above it does not.
        s.holds("How many of the sums 1 .. n (n 0 .. 999) can be GIVEN now",
            "coin(100, 20) = 0; coin(50, 20) = 1; coin(111, 20) = 2; fill({0, 1}, 2); ? givable(999) = 6",
            "drain(0, 2); drain(1, 2); fill(2, 20); ? givable(998) = 8; ? givable(999) = 9");
        // Where a row of 64 bits ends, and another one begins.
        s.holds("How many of the sums 1 .. n (n 0 .. 999) can be GIVEN now",
            "coin(63, 5) = 0; coin(1, 5) = 1; fill({0, 1}, 1); ? givable(63) = 2; ? givable({64, 999}) = 3",
            "coin(64, 5) = 2; fill(2, 1); ? givable(64) = 3; ? givable(127) = 5; ? givable({128, 999}) = 6",
            "drain({0, 1}, 1); ? givable(999) = 1; fill(2, 1); ? givable(999) = 2");
        s.holds("NONE for another n.",
            "? givable({-1, 1000, min, max}) = NONE",
            "" + ALL_SUMS + "? givable({-1, -999, 1000, 1001, min, max}) = NONE; ? givable(999) = 999");
    }

    private void light() {
        s.section("Promise 18: light");
        s.holds("Whether THE LIGHT is on.",
            "? light() = false; coin(10, 0) = 0; ? light() = true; coin(5, 2) = 1; fill(1, 2); ? light() = false",
            "drain(1, 1); ? light() = true");
        s.holds("Whether THE LIGHT is on.",
            "note(200) = 0; ? light() = false; price(5, 200); ? light() = false; price(5, 199); ? light() = true",
            "price(5, 201); ? light() = false; coin(1, 1) = 1; ? light() = false; price(0, 199); ? light() = true",
            "fill(1, 1); ? light() = false; stuck(1, true); ? light() = true");
    }

    private void need() {
        s.section("Promise 19: need");
        s.holds("NEED: what 0 how many COINS (0 if THE LIGHT is off)",
            "? need(0) = 0; " + WITH_NOTE + "? need(0) = 0; price(0, 30); ? light() = true; ? need(0) = 3",
            "fill(0, 2); ? need(0) = 1; ? kind(1, 3) = 0; fill(1, 1); ? light() = false; ? need(0) = 0; put(1)",
            "? need(0) = 0");
        // As if no credit were there, but with what it brought into the tubes.
        s.holds("NEED: what 0 how many COINS (0 if THE LIGHT is off)",
            WITH_NOTE + "price(0, 30); put(0); ? need(0) = 2; ? need(10) = 1; put(0); ? need(0) = 1; ? need(10) = 0",
            "? need(11) = 1; refund() = 2; ? need(0) = 3");
        s.holds("10 + k of KIND k.",
            WITH_NOTE + "? need({10 .. 12}) = 0; price(0, 30); ? need(10) = 2; ? need(11) = 1; ? need(12) = 0",
            "fill(0, 2); ? need({10, 12}) = 0; ? need(11) = 1; fill(1, 1); ? need({10 .. 12}) = 0");
        s.holds("10 + k of KIND k.",
            "note(150) = 0; note(7) = 1; note(8) = 2; note(9) = 3; note(11) = 4; coin(50, 9) = 5; price(5, 100)",
            "? need(15) = 1; ? need(0) = 1; ? need({10 .. 14}) = 0");
    }

    private void needRefused() {
        s.section("Promise 19: need");
        s.holds("NONE: 4 do not do",
            "coin(10, 20) = 0; note(50) = 1; price(0, 10); ? need(0) = 4; ? need(10) = 4; note(60) = 2",
            "? light() = true; ? need({0, 10 .. 12}) = NONE; fill(0, 1); ? need({0, 10}) = 4; ? need({11, 12}) = 0");
        s.holds("NONE: 4 do not do",
            "coin(10, 5) = 0; coin(50, 5) = 1; price(0, 1); ? need({0, 10, 11}) = NONE; stuck(1, true)",
            "? need({0, 10, 11}) = NONE");
        s.holds("NONE: 4 do not do",
            "coin(10, 5) = 0; coin(20, 5) = 1; coin(30, 5) = 2; coin(40, 5) = 3; coin(50, 5) = 4; coin(60, 5) = 5",
            "? need({0, 10 .. 15}) = 0; price(5, 5); ? need({0, 10 .. 15}) = NONE; fill({0 .. 5}, 5)",
            "? need({0, 10 .. 15}) = NONE");
        s.holds("or another what.",
            "? need({10 .. 15}) = NONE; " + WITH_NOTE + "? need({1 .. 9, 13 .. 17, -1, -10, min, max}) = NONE",
            "? need({-2147483639, -2147483638, 2147483637}) = NONE; ? need({0, 10 .. 12}) = 0");
        s.holds("or another what.",
            WITH_NOTE + "price(0, 30); ? need({1 .. 9, 13 .. 17, -1, -10, min, max}) = NONE; ? need(0) = 3");
    }

    private void look() {
        s.section("Promise 20: look");
        String state = "coin(10, 2) = 0; coin(50, 10) = 1; note(100) = 2; note(20) = 3; fill(0, 2); fill(1, 1);"
            + "mode(1); put(0); put(3); put(1);";
        s.holds("What 0 KINDS, 1 CREDIT, 2 OWED, 3 the KIND of the NOTE that is HELD (NONE), 4 MODE, 5 HAS, "
            + "6 what is in THE BOX (VALUES)",
            "? look({0 .. 2, 4 .. 6}) = 0; ? look(3) = NONE; " + state + "? look(0) = 4; ? look(1) = 80",
            "? look(2) = 0; ? look(3) = 3; ? look(4) = 1; ? look(5) = 150; ? look(6) = 10; stuck({0, 1}, true)",
            "refund() = 0; ? look(1) = 0; ? look(2) = 60; ? look(3) = NONE; ? look(5) = 130; ? look(6) = 10",
            "? look(4) = 1; empty() = 10; ? look(6) = 0; ? look(5) = 120");
        s.holds("10 + i BOOKS: 0 PUT, 1 SOLD, 2 OUT, 3 FILLED, 4 EMPTIED, 5 LOST.",
            "? look({10 .. 15}) = 0; price(0, 60); " + state + "buy(0) = 2; ? look(10) = 80; ? look(11) = 60",
            "? look(12) = 20; ? look(13) = 70; ? look({14, 15}) = 0; empty() = 30; ? look(14) = 30",
            "count(1, 0) = 100; ? look(15) = 100");
        s.holds("NONE - 999999 for another what.",
            "? look({-1, 7 .. 9, 16 .. 20, 100, min, max}) = NONE - 999999",
            state + "? look({-1, 7 .. 9, 16 .. 20, 100, min, max}) = NONE - 999999");
    }

    private void kind() {
        s.section("Promise 21: kind");
        s.holds("Of KIND k what 0 VALUE, 1 1 if it is a NOTE, else 0, 2 ROOM (0 of a NOTE), "
            + "3 how many are in its TUBE, 4 how many in THE BOX",
            "coin(1, 20) = 0; coin(200, 0) = 1; note(199) = 2; price(0, 199); ? kind(0, 0) = 1; ? kind(1, 0) = 200",
            "? kind(2, 0) = 199; ? kind({0, 1}, 1) = 0; ? kind(2, 1) = 1; ? kind(0, 2) = 20; ? kind({1, 2}, 2) = 0",
            "? kind({0 .. 2}, {3, 4}) = 0; fill(0, 20); ? kind(0, 3) = 20; put(0); ? kind(0, 3) = 20",
            "? kind(0, 4) = 1; refund() = 1; ? kind(0, 3) = 19; put(2); ? kind(2, {3, 4}) = 0; buy(0) = 0",
            "? kind(2, 3) = 0; ? kind(2, 4) = 1; put(2); refund() = 0; ? kind(2, 4) = 1; empty() = 200",
            "? kind({0 .. 2}, 4) = 0");
        s.holds("5 1 if it is STUCK, else 0, 6 behind how many it will JAM (NONE).",
            WITH_NOTE + "? kind({0 .. 2}, 5) = 0; ? kind({0 .. 2}, 6) = NONE; stuck(1, true); ? kind(1, 5) = 1",
            "? kind({0, 2}, 5) = 0; jam(0, 0); ? kind(0, 6) = 0; jam(0, 99); ? kind(0, 6) = 99",
            "? kind({1, 2}, 6) = NONE; jam(0, -1); ? kind(0, 6) = NONE");
        s.holds("NONE - 1 if there is none such, or another what.",
            "? kind({0, 5, -1, 6, min, max}, {0, 6}) = NONE - 1",
            "" + WITH_NOTE + "? kind(" + NO_KIND + ", {0, 6}) = NONE - 1",
            "? kind({0 .. 2}, {-1, 7, 8, min, max}) = NONE - 1; ? kind({-1, 3}, {-1, 7}) = NONE - 1");
    }

    private void priced() {
        s.section("Promise 22: priced");
        s.holds("PRICE p",
            "price(0, 1); price(1, 2); price(2, 3); price(3, 4); price(4, 5); price(5, 300); ? priced(0) = 1",
            "? priced(1) = 2; ? priced(2) = 3; ? priced(3) = 4; ? priced(4) = 5; ? priced(5) = 300; price(3, 300)",
            "? priced(3) = 300; ? priced(4) = 5");
        s.holds("0 if there is none.",
            "? priced({0 .. 5}) = 0; price(2, 10); ? priced({0, 1, 3 .. 5}) = 0; price(2, 0)",
            "? priced({0 .. 5}) = 0; price({0 .. 5}, 7); ? priced({-1, -6, 6, 7, min, max}) = 0",
            "? priced({0 .. 5}) = 7");
    }
}
