import java.util.Random;

/** The ways out of large tubes, too many to try them all: coin by coin, each sum with the best way so far. */
public final class FullTubesTest {
    private static final int KINDS = 6;
    private static final long NO_WAY = Long.MAX_VALUE / 2;
    private static final int[] REAL = {1, 2, 5, 10, 20, 50, 100, 200};
    private static final Due DUE = new Due();

    private final Random dice;
    private final ChangeGiver x = new ChangeGiver();
    private final int[] values = new int[KINDS];
    private final int[] inTube = new int[KINDS];
    private final boolean[] stuck = new boolean[KINDS];
    private int mode = 0;

    private FullTubesTest(long seed) {
        dice = new Random(seed);
        int most = dice.nextBoolean() ? 200 : 30;
        boolean real = dice.nextInt(3) == 0;
        for (int k = 0; k < KINDS; k++) {
            int kind = -1;
            while (kind < 0) {
                values[k] = real ? REAL[dice.nextInt(REAL.length)] : 1 + dice.nextInt(most);
                kind = x.coin(values[k], 20);
            }
            inTube[k] = dice.nextInt(4) == 0 ? dice.nextInt(21) : 15 + dice.nextInt(6);
            stuck[k] = dice.nextInt(8) == 0;
            x.fill(k, inTube[k]);
            x.stuck(k, stuck[k]);
        }
    }

    public static void main(String[] args) {
        long first = args.length > 0 ? Long.parseLong(args[0]) : 1;
        long runs = args.length > 1 ? Long.parseLong(args[1]) : 60;
        for (long seed = first; seed < first + runs; seed++) {
            FullTubesTest test = new FullTubesTest(seed);
            test.compare("run " + seed + ", mode 0: ");
            test.mode = 1;
            test.x.mode(1);
            test.compare("run " + seed + ", mode 1: ");
        }
        DUE.end("FullTubesTest");
    }

    private void compare(String run) {
        long[][] bests = new long[21][];
        int fewest = fewestInTube();
        for (int reserve = 0; reserve <= fewest; reserve++) {
            bests[reserve] = bests(reserve);
        }
        int given = 0;
        for (int sum = 1; sum <= 999; sum++) {
            given += bests[0][sum] < NO_WAY ? 1 : 0;
        }
        DUE.is(run + "givable(999)", x.givable(999), given);
        for (int i = 0; i < 40; i++) {
            int sum = i == 0 ? 999 : i == 1 ? 0 : dice.nextInt(1000);
            int reserve = mode == 1 ? fewest : 0;
            while (reserve > 0 && bests[reserve][sum] >= NO_WAY) {
                reserve--;
            }
            compareWay(run, sum, bests[reserve][sum]);
        }
    }

    private void compareWay(String run, int sum, long best) {
        boolean none = best >= NO_WAY;
        long coins = none ? -1 : (best + (1L << 40) - 1) >> 40;
        DUE.is(run + "coins(" + sum + ")", x.coins(sum), coins);
        for (int k = 0; k < KINDS; k++) {
            long numbers = (coins << 40) - best;
            long want = none ? -1 : numbers >> 5 * rank(k) & 31;
            DUE.is(run + "way(" + sum + ", " + k + ")", x.way(sum, k), want);
        }
    }

    private int fewestInTube() {
        int fewest = 20;
        for (int k = 0; k < KINDS; k++) {
            fewest = stuck[k] ? fewest : Math.min(fewest, inTube[k]);
        }
        return fewest;
    }

    /** The least is the best: a coin weighs 2^40, less a little, the more the greater its value is. */
    private long[] bests(int reserve) {
        long[] best = new long[1000];
        java.util.Arrays.fill(best, NO_WAY);
        best[0] = 0;
        for (int k = 0; k < KINDS; k++) {
            long weight = (1L << 40) - (1L << 5 * rank(k));
            int coins = stuck[k] ? 0 : inTube[k] - reserve;
            for (int n = 0; n < coins; n++) {
                for (int sum = 999; sum >= values[k]; sum--) {
                    if (best[sum - values[k]] < NO_WAY) {
                        best[sum] = Math.min(best[sum], best[sum - values[k]] + weight);
                    }
                }
            }
        }
        return best;
    }

    private int rank(int k) {
        int rank = 0;
        for (int other = 0; other < KINDS; other++) {
            rank += values[other] < values[k] ? 1 : 0;
        }
        return rank;
    }
}
