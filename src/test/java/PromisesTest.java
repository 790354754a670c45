/** Promise by promise: ordinary inputs, the edges that the document names, wrong inputs. */
public final class PromisesTest {
    private static final int NO_AMOUNT = -1000000;
    private static final int NEVER = -1;
    private static final int[] WRONG_KINDS = {-1, 3, 5, 6, 7, Integer.MAX_VALUE, Integer.MIN_VALUE};
    private static final Due DUE = new Due();

    public static void main(String[] args) {
        newObject();
        coin();
        note();
        price();
        mode();
        fill();
        stuck();
        jam();
        put();
        putByThePrices();
        putUpTo999();
        putIntoStuckTube();
        takes();
        buy();
        buyWithNote();
        buyThatOwes();
        refund();
        refundWithNote();
        jamsWhileGiving();
        jamsInFullestMode();
        jamsOneBehindAnother();
        pay();
        payThatJams();
        payAbove999();
        gave();
        way();
        wayTies();
        wayFullest();
        coins();
        givable();
        light();
        lightForgetsCredit();
        need();
        needTies();
        needRoom();
        look();
        kind();
        priced();
        empty();
        drain();
        count();
        booksAgree();
        DUE.end("PromisesTest");
    }

    private static void is(String call, long got, long want) {
        DUE.is(call, got, want);
    }

    private static void is(String call, boolean got, boolean want) {
        DUE.is(call, got, want);
    }

    /** Coins 10 (kind 0), 50 (kind 1) and the note 100 (kind 2), with room for 10 each. */
    private static ChangeGiver three(int tens, int fifties) {
        ChangeGiver x = new ChangeGiver();
        x.coin(10, 10);
        x.coin(50, 10);
        x.note(100);
        x.fill(0, tens);
        x.fill(1, fifties);
        return x;
    }

    private static void books(String at, ChangeGiver x, int... want) {
        for (int i = 0; i < want.length; i++) {
            is(at + ": look(" + (10 + i) + ")", x.look(10 + i), want[i]);
        }
        is(at + ": books agree", x.look(10) + x.look(13) - x.look(12) - x.look(14) - x.look(15), x.look(5));
    }

    private static void newObject() {
        ChangeGiver x = new ChangeGiver();
        int[] want = {0, 0, 0, -1, 0, 0, 0};
        for (int what = 0; what < want.length; what++) {
            is("new: look(" + what + ")", x.look(what), want[what]);
        }
        books("new", x, 0, 0, 0, 0, 0, 0);
        for (int i = 0; i < 6; i++) {
            is("new: priced", x.priced(i), 0);
            is("new: kind", x.kind(i, 0), -2);
        }
        is("new: light", x.light(), false);
        is("new: need", x.need(0), 0);
        is("NONE", ChangeGiver.NONE, -1);
        ChangeGiver other = new ChangeGiver();
        other.coin(5, 5);
        is("an object of its own", x.look(0), 0);
    }

    private static void coin() {
        ChangeGiver x = new ChangeGiver();
        int[][] wrong = {{0, 1}, {201, 1}, {-1, 1}, {5, -1}, {5, 21},
            {Integer.MIN_VALUE, 1}, {Integer.MAX_VALUE, 1}, {5, Integer.MIN_VALUE}, {5, Integer.MAX_VALUE}};
        for (int[] pair : wrong) {
            is("coin that can't be", x.coin(pair[0], pair[1]), -1);
        }
        is("coins refused are none", x.look(0), 0);
        is("coin(1, 0)", x.coin(1, 0), 0);
        is("coin(200, 20)", x.coin(200, 20), 1);
        is("coin(1, 5) again", x.coin(1, 5), -1);
        is("note(7)", x.note(7), 2);
        is("coin of a note's value", x.coin(7, 5), -1);
        is("room stays", x.kind(0, 2), 0);
        is("coin(2, 3)", x.coin(2, 3), 3);
        x.fill(3, 1);
        x.put(3);
        is("there is a credit", x.look(1), 2);
        is("coin with a credit", x.coin(3, 3), -1);
        x.refund();
        is("coin(3, 3)", x.coin(3, 3), 4);
        is("coin(4, 4)", x.coin(4, 4), 5);
        is("the seventh", x.coin(5, 5), -1);
        is("six kinds", x.look(0), 6);
        is("the last one", x.kind(5, 0), 4);
        is("the first one", x.kind(0, 0), 1);
    }

    private static void note() {
        ChangeGiver x = new ChangeGiver();
        int[] wrong = {0, -1, 201, Integer.MIN_VALUE, Integer.MAX_VALUE};
        for (int value : wrong) {
            is("note that can't be", x.note(value), -1);
        }
        is("note(1)", x.note(1), 0);
        is("note(200)", x.note(200), 1);
        is("note(1) again", x.note(1), -1);
        is("coin(9, 9)", x.coin(9, 9), 2);
        is("note of a coin's value", x.note(9), -1);
        is("put(1)", x.put(1), 1);
        is("note with a credit", x.note(8), -1);
        x.refund();
        is("note(8)", x.note(8), 3);
        is("note(10)", x.note(10), 4);
        is("note(11)", x.note(11), 5);
        is("the seventh", x.note(12), -1);
        is("six kinds", x.look(0), 6);
    }

    private static void price() {
        ChangeGiver x = three(5, 5);
        int[][] wrong = {{-1, 10}, {6, 10}, {0, -1}, {0, 301}, {Integer.MIN_VALUE, 1}, {Integer.MAX_VALUE, 1},
            {0, Integer.MIN_VALUE}, {0, Integer.MAX_VALUE}};
        for (int[] pair : wrong) {
            is("price that can't be", x.price(pair[0], pair[1]), false);
        }
        is("price(0, 1)", x.price(0, 1), true);
        is("price(5, 300)", x.price(5, 300), true);
        is("price(1, 300) twice", x.price(1, 300), true);
        is("priced(0)", x.priced(0), 1);
        is("priced(5)", x.priced(5), 300);
        is("price(0, 0)", x.price(0, 0), true);
        is("priced(0) none", x.priced(0), 0);
        x.put(0);
        is("price with a credit", x.price(2, 10), false);
        is("priced(2) as before", x.priced(2), 0);
        is("no price taken off with a credit", x.price(5, 0), false);
        is("priced(5) as before", x.priced(5), 300);
    }

    private static void mode() {
        ChangeGiver x = three(5, 5);
        is("mode at first", x.look(4), 0);
        is("mode(1)", x.mode(1), true);
        is("mode(1) again", x.mode(1), true);
        int[] wrong = {2, -1, Integer.MAX_VALUE, Integer.MIN_VALUE};
        for (int m : wrong) {
            is("mode that can't be", x.mode(m), false);
        }
        is("mode stays", x.look(4), 1);
        x.put(0);
        is("mode(0) with a credit", x.mode(0), true);
        is("mode is 0", x.look(4), 0);
    }

    private static void fill() {
        ChangeGiver x = three(0, 0);
        for (int k : WRONG_KINDS) {
            is("fill of no kind", x.fill(k, 0), false);
        }
        is("fill of a note", x.fill(2, 1), false);
        is("fill of a note by 0", x.fill(2, 0), false);
        is("fill(0, -1)", x.fill(0, -1), false);
        is("fill(0, min)", x.fill(0, Integer.MIN_VALUE), false);
        is("fill(0, max)", x.fill(0, Integer.MAX_VALUE), false);
        is("fill(0, 11)", x.fill(0, 11), false);
        is("fill(0, 0)", x.fill(0, 0), true);
        is("fill(0, 4)", x.fill(0, 4), true);
        is("fill(0, 7)", x.fill(0, 7), false);
        is("fill(0, 6)", x.fill(0, 6), true);
        is("a full tube", x.fill(0, 1), false);
        is("a full tube by 0", x.fill(0, 0), true);
        is("in the tube", x.kind(0, 3), 10);
        x.stuck(1, true);
        is("a stuck tube is filled", x.fill(1, 1), true);
        x.put(0);
        is("there is no credit", x.look(1), 10);
        is("fill with a credit", x.fill(1, 2), true);
        books("fill", x, 10, 0, 0, 250, 0, 0);
    }

    private static void stuck() {
        ChangeGiver x = three(3, 3);
        for (int k : WRONG_KINDS) {
            is("stuck of no kind", x.stuck(k, true), false);
        }
        is("stuck of a note", x.stuck(2, true), false);
        is("it wasn't", x.stuck(0, false), false);
        is("stuck(0, true)", x.stuck(0, true), true);
        is("kind(0, 5)", x.kind(0, 5), 1);
        is("kind(1, 5)", x.kind(1, 5), 0);
        is("it was", x.stuck(0, true), false);
        is("a stuck tube gives nothing", x.coins(10), -1);
        is("another gives", x.coins(50), 1);
        is("stuck(0, false)", x.stuck(0, false), true);
        is("it gives again", x.coins(10), 1);
        x.put(0);
        is("stuck with a credit", x.stuck(1, true), true);
    }

    private static void jam() {
        ChangeGiver x = three(5, 5);
        for (int k : WRONG_KINDS) {
            is("jam of no kind", x.jam(k, 1), false);
        }
        int[] wrong = {-2, 100, Integer.MIN_VALUE, Integer.MAX_VALUE};
        for (int n : wrong) {
            is("jam that can't be", x.jam(0, n), false);
        }
        is("jam of a note", x.jam(2, 0), false);
        is("as at first", x.kind(0, 6), -1);
        is("jam(0, -1) as it was", x.jam(0, -1), true);
        is("jam(0, 99)", x.jam(0, 99), true);
        is("kind(0, 6)", x.kind(0, 6), 99);
        is("jam(0, 0)", x.jam(0, 0), true);
        is("kind(0, 6) now", x.kind(0, 6), 0);
        is("it is not stuck yet", x.kind(0, 5), 0);
        is("it is counted on", x.coins(10), 1);
        is("jam(0, -1)", x.jam(0, -1), true);
        x.put(0);
        is("it won't", x.refund(), 1);
        x.jam(0, 3);
        x.put(0);
        x.put(0);
        x.refund();
        is("two less", x.kind(0, 6), 1);
        x.stuck(0, true);
        is("jam of a stuck one", x.jam(0, 7), true);
        x.stuck(0, false);
        is("it stays", x.kind(0, 6), 7);
    }

    private static void put() {
        ChangeGiver x = three(0, 0);
        for (int k : WRONG_KINDS) {
            is("put of no kind", x.put(k), -1);
        }
        is("put(0)", x.put(0), 1);
        is("in its tube", x.kind(0, 3), 1);
        is("credit", x.look(1), 10);
        is("put(2)", x.put(2), 1);
        is("held", x.look(3), 2);
        is("not in the box", x.kind(2, 4), 0);
        is("no second note", x.put(2), 0);
        is("credit as before", x.look(1), 110);
        is("a coin beside the note", x.put(1), 1);
        books("put", x, 160, 0, 0, 0, 0, 0);
        ChangeGiver y = new ChangeGiver();
        y.coin(10, 1);
        is("the first fits", y.put(0), 1);
        is("the second can't be given back", y.put(0), 0);
        is("nothing in the box", y.kind(0, 4), 0);
        y.coin(5, 3);
        y.refund();
        y.coin(5, 3);
        y.fill(0, 1);
        y.fill(1, 2);
        is("a full tube, given back by others", y.put(0), 1);
        is("into the box", y.kind(0, 4), 1);
        is("not into the tube", y.kind(0, 3), 1);
        is("the box", y.look(6), 10);
        ChangeGiver z = new ChangeGiver();
        z.coin(10, 0);
        is("no room at all", z.put(0), 0);
        z.coin(5, 2);
        z.fill(1, 2);
        is("no room, but others", z.put(0), 1);
        is("two of it need four", z.put(0), 0);
    }

    private static void putByThePrices() {
        ChangeGiver x = three(0, 0);
        x.price(0, 30);
        is("50 at 30 needs two tens", x.put(1), 0);
        x.fill(0, 1);
        is("one ten does not do", x.put(1), 0);
        x.fill(0, 1);
        is("two do", x.put(1), 1);
        is("100 at 30 needs 70", x.put(1), 1);
        is("150 at 30 needs 120", x.put(1), 1);
        x.buy(0);
        ChangeGiver y = three(0, 0);
        y.price(3, 100);
        is("at the price itself", y.put(2), 1);
        y.refund();
        y.price(4, 101);
        is("a price above the credit is no matter", y.put(2), 1);
        y.refund();
        y.price(5, 99);
        is("a price below it is", y.put(2), 0);
        y.price(5, 0);
        is("no price is none", y.put(2), 1);
        ChangeGiver z = three(0, 0);
        z.price(0, 60);
        is("a note with coins behind it", z.put(0), 1);
        is("110 at 60 needs 50", z.put(2), 0);
        z.fill(1, 1);
        is("now it has it", z.put(2), 1);
        ChangeGiver w = new ChangeGiver();
        w.coin(20, 5);
        w.price(0, 20);
        w.price(1, 20);
        is("the coin helps itself", w.put(0), 1);
        is("also at the rest", w.put(0), 1);
    }

    private static void putUpTo999() {
        ChangeGiver x = new ChangeGiver();
        x.coin(200, 20);
        x.coin(199, 20);
        x.coin(1, 20);
        for (int i = 0; i < 4; i++) {
            is("put(0)", x.put(0), 1);
        }
        is("1000 is too much", x.put(0), 0);
        is("999 is not", x.put(1), 1);
        is("credit", x.look(1), 999);
        is("not one more", x.put(2), 0);
        is("nor takes", x.takes(2), 0);
        is("refund", x.refund(), 5);
        x.note(198);
        x.put(3);
        for (int i = 0; i < 4; i++) {
            x.put(0);
        }
        is("a note counts", x.look(1), 998);
        is("999 with it", x.put(2), 1);
        is("1000 with it", x.put(2), 0);
    }

    private static void putIntoStuckTube() {
        ChangeGiver x = three(0, 0);
        x.stuck(1, true);
        is("it could not be given back", x.put(1), 0);
        x.fill(0, 5);
        is("but by others", x.put(1), 1);
        is("into its tube all the same", x.kind(1, 3), 1);
        is("the refund", x.refund(), 5);
    }

    private static void takes() {
        ChangeGiver x = three(2, 0);
        x.price(0, 30);
        for (int k : WRONG_KINDS) {
            is("takes of no kind", x.takes(k), -1);
        }
        is("takes(0)", x.takes(0), 1);
        is("takes(1)", x.takes(1), 1);
        is("takes(2)", x.takes(2), 0);
        is("nothing is put in", x.look(1), 0);
        is("nothing is in the tube", x.kind(1, 3), 0);
        is("put(1)", x.put(1), 1);
        is("takes(2) with 50", x.takes(2), 0);
        x.fill(0, 5);
        is("150 at 30 needs 120", x.takes(2), 1);
        x.put(2);
        is("no second note", x.takes(2), 0);
        is("a coin is", x.takes(0), 1);
    }

    private static void buy() {
        ChangeGiver x = three(5, 1);
        x.price(0, 30);
        x.price(1, 50);
        x.price(2, 60);
        is("no credit", x.buy(0), -1);
        x.put(1);
        int[] wrong = {-1, 3, 5, 6, Integer.MAX_VALUE, Integer.MIN_VALUE};
        for (int p : wrong) {
            is("no such price", x.buy(p), -1);
        }
        is("above credit", x.buy(2), -1);
        is("credit stays", x.look(1), 50);
        is("no rest", x.buy(1), 0);
        is("credit is 0", x.look(1), 0);
        is("the coin stays", x.kind(1, 3), 2);
        books("buy", x, 50, 50, 0, 100, 0, 0);
        x.put(1);
        is("a rest of 20", x.buy(0), 2);
        is("tens", x.kind(0, 3), 3);
        books("buy again", x, 100, 80, 20, 100, 0, 0);
        is("once only", x.buy(0), -1);
    }

    private static void buyWithNote() {
        ChangeGiver x = three(5, 1);
        x.price(0, 30);
        is("put(2)", x.put(2), 1);
        is("put(0)", x.put(0), 1);
        is("80 of change", x.buy(0), 4);
        is("fifties", x.gave(1), 1);
        is("tens", x.gave(0), 3);
        is("held no more", x.look(3), -1);
        is("in the box", x.kind(2, 4), 1);
        is("its value", x.look(6), 100);
        books("buy with note", x, 110, 30, 80, 100, 0, 0);
        is("what the box has is not given", x.coins(100), -1);
    }

    private static void buyThatOwes() {
        ChangeGiver x = three(2, 0);
        x.price(0, 30);
        x.put(1);
        x.stuck(0, true);
        is("nothing can be given", x.buy(0), 0);
        is("all is owed", x.look(2), 20);
        is("none given", x.gave(0), 0);
        books("buy that owes", x, 50, 30, 0, 20, 0, 0);
        is("takes as ever", x.takes(0), 0);
        x.stuck(0, false);
        is("owing does not hinder", x.put(0), 1);
        x.stuck(0, true);
        x.refund();
        is("what is owed adds up", x.look(2), 30);
    }

    private static void refund() {
        ChangeGiver x = three(5, 5);
        is("no credit", x.refund(), -1);
        x.put(0);
        x.put(0);
        x.put(0);
        x.put(0);
        x.put(0);
        is("the fewest, not those put in", x.refund(), 1);
        is("a fifty", x.gave(1), 1);
        is("no tens", x.gave(0), 0);
        is("tens in the tube", x.kind(0, 3), 10);
        is("credit", x.look(1), 0);
        is("once only", x.refund(), -1);
        books("refund", x, 50, 0, 50, 300, 0, 0);
    }

    private static void refundWithNote() {
        ChangeGiver x = three(0, 0);
        x.put(0);
        x.put(2);
        is("the note aside", x.refund(), 1);
        is("the ten", x.gave(0), 1);
        is("a note is no coin", x.gave(2), 0);
        is("held no more", x.look(3), -1);
        is("not in the box", x.kind(2, 4), 0);
        is("credit", x.look(1), 0);
        books("refund with note", x, 110, 0, 110, 0, 0, 0);
        x.put(2);
        is("the note alone", x.refund(), 0);
        is("given anew", x.gave(0), 0);
    }

    private static void jamsWhileGiving() {
        ChangeGiver x = three(6, 5);
        x.jam(1, 1);
        x.put(1);
        x.put(1);
        is("one fifty, then five tens", x.refund(), 6);
        is("fifties", x.gave(1), 1);
        is("tens", x.gave(0), 5);
        is("stuck", x.kind(1, 5), 1);
        is("the coin stays", x.kind(1, 3), 6);
        is("it has jammed", x.kind(1, 6), -1);
        is("nothing owed", x.look(2), 0);
        x.stuck(1, false);
        x.jam(1, 0);
        x.put(1);
        is("nothing for it", x.refund(), 0);
        is("all owed", x.look(2), 50);
        is("stuck again", x.kind(1, 5), 1);
        is("the tens stay", x.kind(0, 3), 1);
        books("jams", x, 150, 0, 100, 310, 0, 0);
        ChangeGiver y = three(10, 4);
        y.jam(0, 1);
        y.jam(1, 0);
        y.put(1);
        is("both jam", y.refund(), 1);
        is("what is left is owed", y.look(2), 40);
        is("fifty is stuck", y.kind(1, 5), 1);
        is("ten is stuck", y.kind(0, 5), 1);
        ChangeGiver z = three(10, 4);
        z.jam(1, 1);
        z.put(1);
        is("as many as it can", z.refund(), 1);
        is("not stuck yet", z.kind(1, 5), 0);
        is("but at the next", z.kind(1, 6), 0);
    }

    private static void jamsInFullestMode() {
        ChangeGiver x = new ChangeGiver();
        x.coin(10, 20);
        x.coin(20, 20);
        x.coin(50, 20);
        x.fill(0, 5);
        x.fill(1, 4);
        x.mode(1);
        x.put(2);
        x.jam(1, 1);
        // 20 + 20 + 10 keeps one of each; behind the first 20 the rest is 30 of tens, 1 fifty kept.
        is("anew by the mode", x.refund(), 4);
        is("tens", x.gave(0), 3);
        is("twenties", x.gave(1), 1);
        is("fifty stays", x.kind(2, 3), 1);
    }

    private static void jamsOneBehindAnother() {
        int[] values = {16, 12, 8, 4, 2, 1};
        ChangeGiver x = new ChangeGiver();
        for (int k = 0; k < values.length; k++) {
            x.coin(values[k], 20);
            x.fill(k, 17);
            x.jam(k, k < 5 ? 0 : NEVER);
        }
        x.put(0);
        is("five jam, the last one gives it all", x.refund(), 16);
        is("ones", x.gave(5), 16);
        is("nothing owed", x.look(2), 0);
        for (int k = 0; k < values.length; k++) {
            is("stuck: " + k, x.kind(k, 5), k < 5 ? 1 : 0);
            is("left: " + k, x.kind(k, 3), k == 0 ? 18 : k < 5 ? 17 : 1);
            x.stuck(k, false);
            x.jam(k, k < 5 ? 0 : 3);
            x.fill(5, k < 5 ? 0 : 16);
        }
        x.put(0);
        is("all six jam", x.refund(), 3);
        is("what is left is owed", x.look(2), 13);
        is("the last one too", x.kind(5, 5), 1);
    }

    private static void pay() {
        ChangeGiver x = three(4, 0);
        x.price(0, 10);
        is("nothing is owed", x.pay(), -1);
        x.put(1);
        x.stuck(0, true);
        x.buy(0);
        is("owed", x.look(2), 40);
        is("it can't be given", x.pay(), -1);
        is("gave stays", x.gave(0), 0);
        x.stuck(0, false);
        x.drain(0, 1);
        is("not in part", x.pay(), -1);
        is("owed still", x.look(2), 40);
        x.fill(0, 1);
        is("pay", x.pay(), 4);
        is("gave", x.gave(0), 4);
        is("owed no more", x.look(2), 0);
        is("only once", x.pay(), -1);
        books("pay", x, 50, 10, 40, 50, 10, 0);
    }

    private static void payThatJams() {
        ChangeGiver x = three(4, 0);
        x.price(0, 10);
        x.put(1);
        x.stuck(0, true);
        x.buy(0);
        x.stuck(0, false);
        x.jam(0, 1);
        is("one comes", x.pay(), 1);
        is("the rest is owed still", x.look(2), 30);
        is("stuck", x.kind(0, 5), 1);
        x.stuck(0, false);
        x.put(0);
        is("pay with a credit", x.pay(), 3);
        is("credit stays", x.look(1), 10);
        is("all given", x.look(2), 0);
        books("pay that jams", x, 60, 10, 40, 40, 0, 0);
    }

    private static void payAbove999() {
        ChangeGiver x = new ChangeGiver();
        x.coin(200, 20);
        x.coin(1, 20);
        x.fill(0, 10);
        for (int i = 0; i < 5; i++) {
            x.put(0);
            x.stuck(0, true);
            x.refund();
            x.stuck(0, false);
            if (i == 3) {
                x.put(1);
                x.stuck(1, true);
                x.refund();
                x.stuck(1, false);
            }
        }
        is("owed", x.look(2), 1001);
        is("above 999", x.pay(), -1);
        is("owed still", x.look(2), 1001);
        ChangeGiver y = new ChangeGiver();
        y.coin(111, 20);
        for (int i = 0; i < 9; i++) {
            y.put(0);
            y.stuck(0, true);
            y.refund();
            y.stuck(0, false);
        }
        is("999 owed", y.look(2), 999);
        is("999 is paid", y.pay(), 9);
    }

    private static void gave() {
        ChangeGiver x = three(5, 0);
        for (int k : WRONG_KINDS) {
            is("gave of no kind", x.gave(k), -1);
        }
        is("none yet", x.gave(0), 0);
        x.price(0, 30);
        x.put(1);
        x.buy(0);
        is("gave(0)", x.gave(0), 2);
        is("gave(1)", x.gave(1), 0);
        is("gave(2)", x.gave(2), 0);
        is("not done", x.buy(0), -1);
        is("not done either", x.refund(), -1);
        is("nor this", x.pay(), -1);
        is("gave(0) stays", x.gave(0), 2);
        x.coin(7, 2);
        is("a kind that came later", x.gave(3), 0);
        x.put(1);
        x.refund();
        is("the latest", x.gave(0), 0);
        is("a fifty", x.gave(1), 1);
    }

    private static void way() {
        ChangeGiver x = three(5, 2);
        for (int k : WRONG_KINDS) {
            is("way of no kind", x.way(10, k), -1);
        }
        int[] wrong = {-1, 1000, Integer.MAX_VALUE, Integer.MIN_VALUE, 5, 160};
        for (int sum : wrong) {
            is("way to no such sum", x.way(sum, 0), -1);
        }
        is("0 of tens", x.way(0, 0), 0);
        is("0 of the note", x.way(0, 2), 0);
        is("70: tens", x.way(70, 0), 2);
        is("70: fifties", x.way(70, 1), 1);
        is("70: notes", x.way(70, 2), 0);
        is("150: tens", x.way(150, 0), 5);
        is("nothing is given", x.kind(0, 3), 5);
        x.stuck(1, true);
        is("50 by tens", x.way(50, 0), 5);
        is("none of a stuck one", x.way(50, 1), 0);
        is("70 no more", x.way(70, 0), -1);
    }

    private static void wayTies() {
        ChangeGiver x = new ChangeGiver();
        x.coin(30, 20);
        x.coin(10, 20);
        x.coin(50, 20);
        x.coin(40, 20);
        for (int k = 0; k < 4; k++) {
            x.fill(k, 4);
        }
        // 80 = 50 + 30 = 40 + 40
        is("80: fifties", x.way(80, 2), 1);
        is("80: forties", x.way(80, 3), 0);
        is("80: thirties", x.way(80, 0), 1);
        // 60 = 50 + 10 = 30 + 30
        is("60: fifties", x.way(60, 2), 1);
        is("60: tens", x.way(60, 1), 1);
        x.stuck(2, true);
        // 70 = 40 + 30; 90 = 40 + 40 + 10 = 30 + 30 + 30
        is("90: forties", x.way(90, 3), 2);
        is("90: tens", x.way(90, 1), 1);
        is("90: thirties", x.way(90, 0), 0);
        // the greedy way is not the one of the fewest
        ChangeGiver y = new ChangeGiver();
        y.coin(1, 20);
        y.coin(30, 20);
        y.coin(40, 20);
        y.fill(0, 20);
        y.fill(1, 2);
        y.fill(2, 2);
        is("60 by two thirties", y.coins(60), 2);
        is("60: forties", y.way(60, 2), 0);
        y.drain(1, 1);
        is("60 by one and twenty", y.coins(60), 21);
    }

    private static void wayFullest() {
        ChangeGiver x = new ChangeGiver();
        x.coin(10, 20);
        x.coin(20, 20);
        x.fill(0, 6);
        x.fill(1, 3);
        is("fewest: twenties", x.way(40, 1), 2);
        x.mode(1);
        // 40: two tens and a twenty leave 4 and 2; four tens leave 2 and 3, two twenties 6 and 1.
        is("of those as full the fewest coins", x.coins(40), 3);
        is("fullest: tens", x.way(40, 0), 2);
        is("fullest: twenties", x.way(40, 1), 1);
        is("0 in mode 1", x.coins(0), 0);
        is("all of it", x.coins(120), 9);
        is("too much", x.coins(130), -1);
        x.coin(50, 0);
        is("a tube without room is the one that has the fewest", x.coins(40), 2);
        x.stuck(2, true);
        is("not if it is stuck", x.coins(40), 3);
        x.note(100);
        is("a note has no tube", x.coins(40), 3);
        x.stuck(1, true);
        is("tens alone", x.coins(40), 4);
        x.stuck(0, true);
        is("none gives 0", x.coins(0), 0);
        is("none gives 10", x.coins(10), -1);
        is("nor is any givable", x.givable(999), 0);
    }

    private static void coins() {
        ChangeGiver x = three(5, 2);
        int[] wrong = {-1, 1000, Integer.MAX_VALUE, Integer.MIN_VALUE, 5, 160};
        for (int sum : wrong) {
            is("coins of no such sum", x.coins(sum), -1);
        }
        is("coins(0)", x.coins(0), 0);
        is("coins(10)", x.coins(10), 1);
        is("coins(140)", x.coins(140), 6);
        ChangeGiver y = new ChangeGiver();
        y.coin(111, 20);
        y.fill(0, 20);
        is("coins(999)", y.coins(999), 9);
        is("coins(1110)", y.coins(1110), -1);
    }

    private static void givable() {
        ChangeGiver x = three(5, 2);
        int[] wrong = {-1, 1000, Integer.MAX_VALUE, Integer.MIN_VALUE};
        for (int n : wrong) {
            is("givable of no such n", x.givable(n), -1);
        }
        is("0 is not among them", x.givable(0), 0);
        is("givable(9)", x.givable(9), 0);
        is("givable(10)", x.givable(10), 1);
        is("givable(149)", x.givable(149), 14);
        is("givable(999)", x.givable(999), 15);
        x.mode(1);
        is("by any mode", x.givable(999), 15);
        x.stuck(1, true);
        is("tens alone", x.givable(999), 5);
        ChangeGiver y = new ChangeGiver();
        y.coin(1, 20);
        y.coin(20, 20);
        y.coin(200, 20);
        y.fill(0, 20);
        y.fill(1, 20);
        y.fill(2, 20);
        is("all of them", y.givable(999), 999);
        is("all of 998", y.givable(998), 998);
    }

    private static void light() {
        ChangeGiver x = three(0, 0);
        is("no prices", x.light(), false);
        x.price(0, 30);
        is("fifty can't be taken", x.light(), true);
        x.fill(0, 2);
        is("the note can't", x.light(), true);
        x.fill(1, 1);
        is("all can", x.light(), false);
        x.stuck(0, true);
        is("not by a stuck tube", x.light(), true);
        ChangeGiver y = new ChangeGiver();
        y.coin(10, 0);
        is("a coin without room", y.light(), true);
        y.coin(5, 2);
        is("nor yet", y.light(), true);
        y.fill(1, 2);
        is("others give it back", y.light(), false);
        y.stuck(1, true);
        is("the five itself can't be given back", y.light(), true);
    }

    private static void lightForgetsCredit() {
        ChangeGiver x = new ChangeGiver();
        x.note(100);
        x.coin(50, 1);
        x.put(0);
        is("as if no note were held", x.light(), false);
        is("though one is", x.takes(0), 0);
        ChangeGiver y = new ChangeGiver();
        y.coin(200, 20);
        for (int i = 0; i < 4; i++) {
            y.put(0);
        }
        is("as if the credit were 0", y.light(), false);
        is("though it is not", y.takes(0), 0);
    }

    private static void need() {
        ChangeGiver x = three(0, 0);
        int[] wrong = {-1, 1, 9, 13, 15, 16, Integer.MAX_VALUE, Integer.MIN_VALUE, Integer.MIN_VALUE + 9};
        for (int what : wrong) {
            is("need of no such", x.need(what), -1);
        }
        is("the light is off", x.need(0), 0);
        is("none of kind 0", x.need(10), 0);
        is("none of a note", x.need(12), 0);
        x.price(0, 30);
        // 50 - 30 needs two tens, 100 - 30 needs a fifty beside them
        is("three", x.need(0), 3);
        is("two tens", x.need(10), 2);
        is("a fifty", x.need(11), 1);
        is("none of a note now", x.need(12), 0);
        is("nothing is filled", x.kind(0, 3), 0);
        is("the light is on still", x.light(), true);
        x.fill(0, 2);
        is("one", x.need(0), 1);
        is("no ten", x.need(10), 0);
        x.fill(1, 1);
        is("none", x.need(0), 0);
        ChangeGiver y = new ChangeGiver();
        y.coin(10, 20);
        y.note(50);
        y.price(0, 10);
        is("four do", y.need(0), 4);
        is("four tens", y.need(10), 4);
        y.note(60);
        is("five would be needed", y.need(0), -1);
        is("so of each kind", y.need(10), -1);
        y.put(0);
        is("with one more four", y.need(0), 4);
    }

    private static void needTies() {
        ChangeGiver x = new ChangeGiver();
        x.coin(30, 9);
        x.coin(10, 9);
        x.coin(20, 9);
        x.note(50);
        x.price(0, 10);
        // 20, 10 and 40 must be given: by 30 + 10 + 10, 30 + 20 + 10, 20 + 20 + 10 or 20 + 10 + 10
        is("three", x.need(0), 3);
        is("30", x.need(10), 1);
        is("10", x.need(11), 2);
        is("20", x.need(12), 0);
        ChangeGiver y = new ChangeGiver();
        y.coin(20, 9);
        y.coin(10, 9);
        y.note(30);
        y.note(60);
        y.price(0, 20);
        // 10 and 40: a ten is a must; 20 + 10 + 10, 20 + 20 + 10, 10 four times
        is("also three", y.need(0), 3);
        is("the most of kind 0", y.need(10), 2);
        is("then of kind 1", y.need(11), 1);
    }

    private static void needRoom() {
        ChangeGiver x = new ChangeGiver();
        x.coin(20, 1);
        x.coin(10, 9);
        x.note(60);
        x.price(0, 20);
        is("one of 20 fits", x.need(10), 1);
        is("two tens with it", x.need(11), 2);
        x.fill(0, 1);
        is("it is full", x.need(0), 2);
        x.stuck(0, true);
        is("stuck: its own value wants tens too", x.need(0), 4);
        is("none into it", x.need(10), 0);
        is("four tens", x.need(11), 4);
        ChangeGiver y = new ChangeGiver();
        y.coin(10, 3);
        y.note(50);
        y.price(0, 10);
        is("no room for four", y.need(0), -1);
    }

    private static void look() {
        ChangeGiver x = three(1, 2);
        int[] wrong = {-1, 7, 8, 9, 16, 17, Integer.MAX_VALUE, Integer.MIN_VALUE};
        for (int what : wrong) {
            is("look at no such", x.look(what), NO_AMOUNT);
        }
        x.mode(1);
        x.put(2);
        x.put(0);
        int[] want = {3, 110, 0, 2, 1, 220, 0};
        for (int what = 0; what < want.length; what++) {
            is("look(" + what + ")", x.look(what), want[what]);
        }
        x.stuck(0, true);
        x.refund();
        is("owed", x.look(2), 10);
        is("held", x.look(3), -1);
        is("has", x.look(5), 120);
        books("look", x, 110, 0, 100, 110, 0, 0);
    }

    private static void kind() {
        ChangeGiver x = three(4, 2);
        for (int k : WRONG_KINDS) {
            is("no such kind", x.kind(k, 0), -2);
        }
        int[] wrong = {-1, 7, Integer.MAX_VALUE, Integer.MIN_VALUE};
        for (int what : wrong) {
            is("kind: no such", x.kind(0, what), -2);
        }
        x.jam(1, 8);
        x.stuck(0, true);
        int[][] want = {{10, 0, 10, 4, 0, 1, -1}, {50, 0, 10, 2, 0, 0, 8}, {100, 1, 0, 0, 0, 0, -1}};
        for (int k = 0; k < want.length; k++) {
            for (int what = 0; what < want[k].length; what++) {
                is("kind(" + k + ", " + what + ")", x.kind(k, what), want[k][what]);
            }
        }
        x.price(0, 100);
        x.put(2);
        x.buy(0);
        is("a note in the box", x.kind(2, 4), 1);
        is("a note in no tube", x.kind(2, 3), 0);
    }

    private static void priced() {
        ChangeGiver x = new ChangeGiver();
        for (int p = 0; p < 6; p++) {
            x.price(p, 10 * p + 1);
        }
        for (int p = 0; p < 6; p++) {
            is("priced(" + p + ")", x.priced(p), 10 * p + 1);
        }
        int[] wrong = {-1, 6, Integer.MAX_VALUE, Integer.MIN_VALUE};
        for (int p : wrong) {
            is("priced of no such", x.priced(p), 0);
        }
    }

    private static void empty() {
        ChangeGiver x = new ChangeGiver();
        x.coin(10, 1);
        x.coin(5, 4);
        x.note(100);
        x.price(0, 20);
        x.price(1, 100);
        x.fill(0, 1);
        x.fill(1, 4);
        is("an empty box", x.empty(), 0);
        x.put(0);
        x.put(0);
        is("two tens", x.look(6), 20);
        x.buy(0);
        x.price(0, 0);
        x.put(2);
        x.buy(1);
        x.put(2);
        is("the held one stays", x.empty(), 120);
        is("held", x.look(3), 2);
        is("tens in the box", x.kind(0, 4), 0);
        is("notes in the box", x.kind(2, 4), 0);
        is("the tube stays", x.kind(0, 3), 1);
        is("credit stays", x.look(1), 100);
        is("again", x.empty(), 0);
        books("empty", x, 220, 120, 0, 30, 120, 0);
    }

    private static void drain() {
        ChangeGiver x = three(5, 5);
        for (int k : WRONG_KINDS) {
            is("drain of no kind", x.drain(k, 0), false);
        }
        is("drain of a note", x.drain(2, 0), false);
        int[] wrong = {-1, 6, Integer.MAX_VALUE, Integer.MIN_VALUE};
        for (int n : wrong) {
            is("drain that can't be", x.drain(0, n), false);
        }
        is("drain(0, 0)", x.drain(0, 0), true);
        is("drain(0, 2)", x.drain(0, 2), true);
        is("not so many", x.drain(0, 4), false);
        is("drain(0, 3)", x.drain(0, 3), true);
        is("none left", x.kind(0, 3), 0);
        x.stuck(1, true);
        is("a stuck one too", x.drain(1, 1), true);
        x.stuck(1, false);
        x.put(0);
        is("not with a credit", x.drain(1, 1), false);
        is("nor by 0", x.drain(1, 0), false);
        books("drain", x, 10, 0, 0, 300, 100, 0);
    }

    private static void count() {
        ChangeGiver x = three(5, 5);
        for (int k : WRONG_KINDS) {
            is("count of no kind", x.count(k, 0), NO_AMOUNT);
        }
        is("count of a note", x.count(2, 0), NO_AMOUNT);
        int[] wrong = {-1, 11, Integer.MAX_VALUE, Integer.MIN_VALUE};
        for (int n : wrong) {
            is("count that can't be", x.count(0, n), NO_AMOUNT);
        }
        is("as it should be", x.count(0, 5), 0);
        is("too few", x.count(0, 3), 20);
        is("so many from then on", x.kind(0, 3), 3);
        books("too few", x, 0, 0, 0, 300, 0, 20);
        is("too many", x.count(1, 10), -250);
        is("so many now", x.kind(1, 3), 10);
        books("too many", x, 0, 0, 0, 300, 0, -230);
        is("none", x.count(1, 0), 500);
        x.stuck(1, true);
        is("a stuck one too", x.count(1, 1), -50);
        x.put(0);
        is("not with a credit", x.count(0, 3), NO_AMOUNT);
        is("nothing is done", x.kind(0, 3), 4);
    }

    private static void booksAgree() {
        ChangeGiver x = three(3, 3);
        x.price(0, 30);
        x.put(2);
        x.put(1);
        x.jam(1, 1);
        is("150 less 30: a fifty, and no way for what is left", x.buy(0), 1);
        is("owed", x.look(2), 70);
        books("a run", x, 150, 30, 50, 180, 0, 0);
        x.empty();
        x.count(1, 2);
        x.drain(1, 1);
        x.stuck(1, false);
        x.fill(0, 4);
        is("pay", x.pay(), 3);
        books("to the end", x, 150, 30, 120, 220, 150, 50);
        is("has", x.look(5), 50);
    }
}
