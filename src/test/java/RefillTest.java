import java.math.BigInteger;
import java.util.Random;

/** What machines with large tubes take, their light and their need: what can be given is the bits of one number. */
public final class RefillTest {
    private static final int KINDS = 6;
    private static final int MOST_NEED = 4;
    private static final int[] REAL = {1, 2, 5, 10, 20, 50, 100, 200};
    private static final Due DUE = new Due();

    private final Random dice;
    private final ChangeGiver x = new ChangeGiver();
    private final int[] values = new int[KINDS];
    private final boolean[] isNote = new boolean[KINDS];
    private final boolean[] stuck = new boolean[KINDS];
    private final int[] room = new int[KINDS];
    private final int[] inTube = new int[KINDS];
    private final int[] prices = new int[KINDS];
    private int credit = 0;
    private int held = -1;
    private int[] best = null;

    private RefillTest(long seed) {
        dice = new Random(seed);
        int unit = dice.nextInt(3) == 0 ? 1 : 5;
        for (int k = 0; k < KINDS; k++) {
            newKind(k, unit);
        }
        for (int p = dice.nextInt(3); p < KINDS; p += 1 + dice.nextInt(4)) {
            prices[p] = unit * (1 + dice.nextInt(300 / unit));
            x.price(p, prices[p]);
        }
    }

    /** Mostly many coins of the least value, for then a few coins more often make the difference. */
    private void newKind(int k, int unit) {
        isNote[k] = k > 0 && dice.nextInt(5) == 0;
        room[k] = isNote[k] ? 0 : dice.nextInt(21);
        int kind = -1;
        while (kind < 0) {
            values[k] = dice.nextBoolean() ? unit * (1 + dice.nextInt(200 / unit)) : REAL[dice.nextInt(REAL.length)];
            values[k] = k == 0 ? unit : values[k];
            kind = isNote[k] ? x.note(values[k]) : x.coin(values[k], room[k]);
        }
        inTube[k] = dice.nextInt(1 + room[k]);
        stuck[k] = !isNote[k] && dice.nextInt(10) == 0;
        x.fill(k, inTube[k]);
        x.stuck(k, stuck[k]);
    }

    public static void main(String[] args) {
        long first = args.length > 0 ? Long.parseLong(args[0]) : 1;
        long runs = args.length > 1 ? Long.parseLong(args[1]) : 3000;
        for (long seed = first; seed < first + runs; seed++) {
            RefillTest test = new RefillTest(seed);
            test.compareNeed("run " + seed + ": ");
            test.putAll("run " + seed + ": ");
            test.compareNeed("run " + seed + ", with a credit of " + test.credit + ": ");
        }
        DUE.end("RefillTest");
    }

    private void compareNeed(String run) {
        best = null;
        for (int total = 0; total <= MOST_NEED && best == null; total++) {
            search(new int[KINDS], 0, total);
        }
        DUE.is(run + "light()", x.light(), isOn(new int[KINDS]));
        DUE.is(run + "need(0)", x.need(0), best == null ? -1 : total(best));
        for (int k = 0; k < KINDS; k++) {
            DUE.is(run + "need(" + (10 + k) + ")", x.need(10 + k), best == null ? -1 : best[k]);
        }
    }

    /** Tries the most coins of each kind first, so that the first find is the best. */
    private void search(int[] more, int k, int left) {
        if (k == KINDS) {
            best = best == null && left == 0 && !isOn(more) ? more.clone() : best;
            return;
        }
        for (int n = Math.min(left, room[k] - inTube[k]); n >= 0 && best == null; n--) {
            more[k] = n;
            search(more, k + 1, left - n);
        }
        more[k] = 0;
    }

    private static int total(int[] numbers) {
        int all = 0;
        for (int n : numbers) {
            all += n;
        }
        return all;
    }

    private boolean isOn(int[] more) {
        for (int k = 0; k < KINDS; k++) {
            if (!isTaken(k, 0, -1, more)) {
                return true;
            }
        }
        return false;
    }

    private boolean isTaken(int k, int creditBefore, int heldBefore, int[] more) {
        int creditWith = creditBefore + values[k];
        int heldWith = isNote[k] ? k : heldBefore;
        if (creditWith > 999 || isNote[k] && heldBefore >= 0) {
            return false;
        }
        BigInteger sums = sums(k, more);
        boolean may = sums.testBit(creditWith - (heldWith < 0 ? 0 : values[heldWith]));
        for (int price : prices) {
            may &= price == 0 || price > creditWith || sums.testBit(creditWith - price);
        }
        return may;
    }

    /** Bit s: s can be given, with so many coins more, and with what is put in where it fits. */
    private BigInteger sums(int put, int[] more) {
        BigInteger sums = BigInteger.ONE;
        for (int k = 0; k < KINDS; k++) {
            int coins = stuck[k] ? 0 : Math.min(room[k], inTube[k] + more[k] + (k == put ? 1 : 0));
            for (int n = 0; n < coins; n++) {
                sums = sums.or(sums.shiftLeft(values[k]));
            }
        }
        return sums;
    }

    private void putAll(String run) {
        for (int i = 0; i < 60; i++) {
            int k = dice.nextInt(KINDS);
            boolean want = isTaken(k, credit, held, new int[KINDS]);
            String call = run + "call " + i + " with a credit of " + credit + ": put(" + k + ")";
            DUE.is(call, x.put(k), want ? 1 : 0);
            if (want) {
                credit += values[k];
                held = isNote[k] ? k : held;
                inTube[k] += inTube[k] < room[k] ? 1 : 0;
            }
        }
        DUE.is(run + "look(1)", x.look(1), credit);
        DUE.is(run + "look(3)", x.look(3), held);
    }
}
