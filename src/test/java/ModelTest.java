import java.util.Random;

/** Long runs of calls, some wild, on the program and on the model: all answers must be the same. */
public final class ModelTest {
    private static final int[] REAL = {1, 2, 5, 10, 20, 50, 100, 200};
    private static final int[] TENS = {10, 20, 30, 40, 50, 60, 70, 80, 90, 100, 150, 200};
    private static final int[] WILD = {-1, -2, 6, 7, 20, 21, 99, 100, 200, 201, 300, 301, 999, 1000,
        Integer.MAX_VALUE, Integer.MIN_VALUE, Integer.MIN_VALUE + 9, Integer.MAX_VALUE - 9};

    private final Due due;
    private final Random dice;
    private final ChangeGiver x = new ChangeGiver();
    private final Model m = new Model();
    private final String run;
    private final int style;
    private int calls = 0;

    private ModelTest(Due due, long seed) {
        this.due = due;
        this.dice = new Random(seed);
        this.run = "run " + seed + ": ";
        this.style = dice.nextInt(4);
    }

    public static void main(String[] args) {
        long first = args.length > 0 ? Long.parseLong(args[0]) : 1;
        long runs = args.length > 1 ? Long.parseLong(args[1]) : 1500;
        Due due = new Due();
        for (long seed = first; seed < first + runs; seed++) {
            new ModelTest(due, seed).play();
        }
        due.end("ModelTest");
    }

    private void play() {
        int kinds = 1 + dice.nextInt(6);
        for (int i = 0; i < kinds; i++) {
            newKind();
        }
        int prices = dice.nextInt(4);
        for (int p = 0; p < prices; p++) {
            newPrice();
        }
        for (int k = 0; k < kinds; k++) {
            fill(k, dice.nextInt(3) == 0 ? dice.nextInt(1 + room()) : Math.max(0, m.kind(k, 2)));
        }
        mode(dice.nextInt(2));
        while (calls < 380) {
            step();
        }
        compareAll();
    }

    /** Small tubes where the values are small, for the model tries all ways. */
    private int room() {
        return style == 0 ? 20 : style == 1 ? 5 : 4;
    }

    private int value() {
        switch (style) {
            case 0: return 100 + dice.nextInt(101);
            case 1: return TENS[dice.nextInt(TENS.length)];
            case 2: return REAL[dice.nextInt(REAL.length)];
            default: return 1 + dice.nextInt(200);
        }
    }

    private void newKind() {
        int v = m.look(0) == 0 && style == 1 ? 10 : value();
        if (dice.nextInt(4) == 0 && m.look(0) > 0) {
            is("note(" + v + ")", x.note(v), m.note(v));
        } else {
            int r = dice.nextInt(8) == 0 ? 0 : 1 + dice.nextInt(room());
            is("coin(" + v + ", " + r + ")", x.coin(v, r), m.coin(v, r));
        }
    }

    private void newPrice() {
        int p = dice.nextInt(6);
        int v = priceOf(dice.nextInt(8));
        is("price(" + p + ", " + v + ")", x.price(p, v), m.price(p, v));
    }

    /** A price for which there may be change: what one or two of the kinds are worth, or any number. */
    private int priceOf(int how) {
        int size = m.look(0);
        if (how == 0 || size == 0) {
            return number(300);
        }
        int one = m.kind(dice.nextInt(size), 0);
        int other = m.kind(dice.nextInt(size), 0);
        return how < 5 ? one : how < 7 ? Math.abs(one - other) : Math.min(300, one + other);
    }

    private int kind() {
        int size = m.look(0);
        int d = dice.nextInt(60);
        return d == 0 ? WILD[dice.nextInt(WILD.length)] : d < 4 || size == 0 ? dice.nextInt(6) : dice.nextInt(size);
    }

    private int priced() {
        int p = dice.nextInt(6);
        for (int i = 0; i < 6 && dice.nextInt(10) > 0; i++) {
            if (m.priced((p + i) % 6) > 0 && m.priced((p + i) % 6) <= m.look(1)) {
                return (p + i) % 6;
            }
        }
        return dice.nextInt(20) == 0 ? WILD[dice.nextInt(WILD.length)] : p;
    }

    private int number(int most) {
        return dice.nextInt(60) == 0 ? WILD[dice.nextInt(WILD.length)] : dice.nextInt(most + 1);
    }

    private void step() {
        int d = dice.nextInt(100);
        if (d < 30) {
            putSome();
        } else if (d < 48) {
            change();
        } else if (d < 62) {
            give();
        } else {
            ask();
        }
    }

    private void putSome() {
        int k = kind();
        is("takes(" + k + ")", x.takes(k), m.takes(k));
        is("put(" + k + ")", x.put(k), m.put(k));
    }

    private void give() {
        int d = dice.nextInt(6);
        int done = d < 3 ? buy() : d < 4 ? pay() : refund();
        if (done > 0 || dice.nextInt(8) == 0) {
            for (int k = 0; k < m.look(0); k++) {
                is("gave(" + k + ")", x.gave(k), m.gave(k));
            }
        }
    }

    private int buy() {
        int p = priced();
        int want = m.buy(p);
        is("buy(" + p + ")", x.buy(p), want);
        return want;
    }

    private int pay() {
        int want = m.pay();
        is("pay()", x.pay(), want);
        return want;
    }

    private int refund() {
        int want = m.refund();
        is("refund()", x.refund(), want);
        return want;
    }

    private void change() {
        int k = kind();
        switch (dice.nextInt(14)) {
            case 0: newKind(); break;
            case 1: newPrice(); break;
            case 2: mode(number(1)); break;
            case 3: case 4: fill(k, number(room() / 2)); break;
            case 5: stick(k, true); break;
            case 6: case 7: case 8: stick(k, false); break;
            case 9: case 10: jam(k, number(4) - dice.nextInt(2)); break;
            case 11: is("empty()", x.empty(), m.empty()); break;
            case 12: drain(k, number(2)); break;
            default: count(k, number(room())); break;
        }
    }

    private void mode(int n) {
        is("mode(" + n + ")", x.mode(n), m.mode(n));
    }

    private void fill(int k, int n) {
        is("fill(" + k + ", " + n + ")", x.fill(k, n), m.fill(k, n));
    }

    private void stick(int k, boolean is) {
        is("stuck(" + k + ", " + is + ")", x.stuck(k, is), m.stuck(k, is));
    }

    private void jam(int k, int n) {
        is("jam(" + k + ", " + n + ")", x.jam(k, n), m.jam(k, n));
    }

    private void drain(int k, int n) {
        is("drain(" + k + ", " + n + ")", x.drain(k, n), m.drain(k, n));
    }

    private void count(int k, int n) {
        is("count(" + k + ", " + n + ")", x.count(k, n), m.count(k, n));
    }

    private void ask() {
        int k = kind();
        int sum = sum();
        switch (dice.nextInt(9)) {
            case 0: is("way(" + sum + ", " + k + ")", x.way(sum, k), m.way(sum, k)); break;
            case 1: case 2: is("coins(" + sum + ")", x.coins(sum), m.coins(sum)); break;
            case 3: int n = number(150); is("givable(" + n + ")", x.givable(n), m.givable(n)); break;
            case 4: is("light()", x.light(), m.light()); break;
            case 5: is("need(0)", x.need(0), m.need(0)); break;
            case 6: int w = 10 + kind(); is("need(" + w + ")", x.need(w), m.need(w)); break;
            case 7: int l = number(16); is("look(" + l + ")", x.look(l), m.look(l)); break;
            default: int f = number(7); is("kind(" + k + ", " + f + ")", x.kind(k, f), m.kind(k, f)); break;
        }
    }

    /** A sum that the coins make up, more often than not. */
    private int sum() {
        if (dice.nextInt(3) == 0) {
            return number(300);
        }
        int sum = 0;
        for (int k = 0; k < m.look(0); k++) {
            int in = m.kind(k, 3);
            sum += in > 0 ? dice.nextInt(in + 1) * m.kind(k, 0) : 0;
        }
        return sum > 999 ? sum % 500 : sum;
    }

    private void compareAll() {
        for (int what = -1; what <= 16; what++) {
            is("look(" + what + ")", x.look(what), m.look(what));
        }
        for (int k = -1; k <= 6; k++) {
            for (int what = -1; what <= 7; what++) {
                is("kind(" + k + ", " + what + ")", x.kind(k, what), m.kind(k, what));
            }
            is("priced(" + k + ")", x.priced(k), m.priced(k));
        }
        is("books agree", x.look(10) + x.look(13) - x.look(12) - x.look(14) - x.look(15), x.look(5));
    }

    private void is(String call, long got, long want) {
        calls++;
        due.is(run + "call " + calls + ": " + call, got, want);
    }

    private void is(String call, boolean got, boolean want) {
        is(call, got ? 1L : 0L, want ? 1L : 0L);
    }
}
