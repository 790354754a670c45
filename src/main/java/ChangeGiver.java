import java.util.Arrays;

/** A change giver. What each public method does is the promise of its name in the document. */
public final class ChangeGiver {
    public static final int NONE = -1;

    private static final int MOST_KINDS = 6;
    private static final int MOST_PRICES = 6;
    private static final int MOST_VALUE = 200;
    private static final int MOST_ROOM = 20;
    private static final int MOST_PRICE = 300;
    private static final int MOST_SUM = 999;
    private static final int MOST_JAM = 99;
    private static final int MOST_NEED = 4;

    private static final int NO_AMOUNT = NONE - 999999;
    private static final int NO_FACT = NONE - 1;

    private static final int FEWEST_COINS = 0;
    private static final int FULLEST_TUBES = 1;

    private static final int PUT = 0;
    private static final int SOLD = 1;
    private static final int OUT = 2;
    private static final int FILLED = 3;
    private static final int EMPTIED = 4;
    private static final int LOST = 5;
    private static final int BOOKS = 6;

    // look() and need() number the answers of a row from here on: 10 + i.
    private static final int ROW_START = 10;

    private final Till till = new Till();
    private final Sums sums = new Sums();
    private final Ways ways = new Ways();
    private final Refill refill = new Refill();
    private final int[] books = new int[BOOKS];
    private int wayMode = FEWEST_COINS;
    private int credit = 0;
    private int owed = 0;
    private int held = NONE;

    public ChangeGiver() {
    }

    public int coin(int value, int room) {
        if (room < 0 || room > MOST_ROOM) {
            return NONE;
        }
        return addKind(value, room, false);
    }

    public int note(int value) {
        return addKind(value, 0, true);
    }

    public boolean price(int p, int v) {
        if (p < 0 || p >= MOST_PRICES || v < 0 || v > MOST_PRICE || credit != 0) {
            return false;
        }
        till.prices[p] = v;
        return true;
    }

    public boolean mode(int m) {
        if (m != FEWEST_COINS && m != FULLEST_TUBES) {
            return false;
        }
        wayMode = m;
        return true;
    }

    public boolean fill(int k, int n) {
        Kind tube = till.findCoin(k);
        if (tube == null || n < 0 || n > tube.free()) {
            return false;
        }
        tube.inTube += n;
        books[FILLED] += n * tube.value;
        return true;
    }

    public boolean stuck(int k, boolean is) {
        Kind tube = till.findCoin(k);
        if (tube == null || tube.isStuck == is) {
            return false;
        }
        tube.isStuck = is;
        return true;
    }

    public boolean jam(int k, int n) {
        Kind tube = till.findCoin(k);
        if (tube == null || n < NONE || n > MOST_JAM) {
            return false;
        }
        tube.jamsBehind = n;
        return true;
    }

    public int put(int k) {
        Kind one = till.find(k);
        if (one == null) {
            return NONE;
        }
        if (!canTake(one)) {
            return 0;
        }
        credit += one.value;
        books[PUT] += one.value;
        if (one.isNote) {
            held = k;
        } else if (one.free() > 0) {
            one.inTube++;
        } else {
            one.inBox++;
        }
        return 1;
    }

    public int takes(int k) {
        Kind one = till.find(k);
        if (one == null) {
            return NONE;
        }
        return canTake(one) ? 1 : 0;
    }

    public int buy(int p) {
        int asked = priced(p);
        if (asked == 0 || asked > credit) {
            return NONE;
        }
        Kind note = till.find(held);
        if (note != null) {
            note.inBox++;
        }
        books[SOLD] += asked;
        int rest = credit - asked;
        endCredit();
        return giveOut(rest);
    }

    public int refund() {
        if (credit == 0) {
            return NONE;
        }
        int back = heldValue();
        books[OUT] += back;
        int rest = credit - back;
        endCredit();
        return giveOut(rest);
    }

    public int pay() {
        if (owed == 0 || !plan(owed)) {
            return NONE;
        }
        int sum = owed;
        owed = 0;
        return giveOut(sum);
    }

    public int gave(int k) {
        Kind one = till.find(k);
        return one == null ? NONE : one.given;
    }

    public int way(int sum, int k) {
        Kind one = till.find(k);
        if (one == null || !plan(sum)) {
            return NONE;
        }
        return one.inWay;
    }

    public int coins(int sum) {
        return plan(sum) ? till.coinsInWay() : NONE;
    }

    public int givable(int n) {
        if (n < 0 || n > MOST_SUM) {
            return NONE;
        }
        till.collect(sums, 0);
        return sums.howMany(n);
    }

    public boolean light() {
        return refill.fewest(till, 0) == NONE;
    }

    public int need(int what) {
        Kind one = what < ROW_START ? null : till.find(what - ROW_START);
        if (what != 0 && one == null) {
            return NONE;
        }
        int total = refill.fewest(till, MOST_NEED);
        if (total == NONE || one == null) {
            return total;
        }
        return refill.added[what - ROW_START];
    }

    public int look(int what) {
        if (what >= ROW_START && what < ROW_START + BOOKS) {
            return books[what - ROW_START];
        }
        switch (what) {
            case 0: return till.size;
            case 1: return credit;
            case 2: return owed;
            case 3: return held;
            case 4: return wayMode;
            case 5: return till.tubesValue() + till.boxValue() + heldValue();
            case 6: return till.boxValue();
            default: return NO_AMOUNT;
        }
    }

    public int kind(int k, int what) {
        Kind one = till.find(k);
        if (one == null) {
            return NO_FACT;
        }
        switch (what) {
            case 0: return one.value;
            case 1: return one.isNote ? 1 : 0;
            case 2: return one.room;
            case 3: return one.inTube;
            case 4: return one.inBox;
            case 5: return one.isStuck ? 1 : 0;
            case 6: return one.jamsBehind;
            default: return NO_FACT;
        }
    }

    public int priced(int p) {
        return p < 0 || p >= MOST_PRICES ? 0 : till.prices[p];
    }

    public int empty() {
        int sum = till.boxValue();
        till.clearBox();
        books[EMPTIED] += sum;
        return sum;
    }

    public boolean drain(int k, int n) {
        Kind tube = till.findCoin(k);
        if (tube == null || n < 0 || n > tube.inTube || credit != 0) {
            return false;
        }
        tube.inTube -= n;
        books[EMPTIED] += n * tube.value;
        return true;
    }

    public int count(int k, int n) {
        Kind tube = till.findCoin(k);
        if (tube == null || n < 0 || n > tube.room || credit != 0) {
            return NO_AMOUNT;
        }
        int missing = (tube.inTube - n) * tube.value;
        tube.inTube = n;
        books[LOST] += missing;
        return missing;
    }

    private int addKind(int value, int room, boolean isNote) {
        if (value < 1 || value > MOST_VALUE || credit != 0) {
            return NONE;
        }
        return till.add(value, room, isNote);
    }

    private int heldValue() {
        Kind note = till.find(held);
        return note == null ? 0 : note.value;
    }

    private boolean canTake(Kind one) {
        if (one.isNote && held != NONE) {
            return false;
        }
        till.collect(sums, 0);
        int noteValue = one.isNote ? one.value : heldValue();
        return till.mayTake(one, one.free() > 0, sums, credit + one.value, noteValue);
    }

    /** Sets THE WAY to give the sum in each kind's inWay; false if it can't be given. */
    private boolean plan(int sum) {
        if (sum < 0 || sum > MOST_SUM) {
            return false;
        }
        // The fullest tubes: the more that must stay in every tube, the better, as long as there is a way.
        int reserve = wayMode == FULLEST_TUBES ? till.fewestInTube() : 0;
        till.collect(sums, reserve);
        for (; reserve > 0 && !sums.has(sum); reserve--) {
            till.collectOneOfEach(sums);
        }
        return sums.has(sum) && ways.choose(till, sum, reserve);
    }

    private void endCredit() {
        credit = 0;
        held = NONE;
    }

    /** Gives a sum, owes what can't be given; answers how many coins came out. */
    private int giveOut(int sum) {
        till.forgetGiven();
        int left = sum;
        // Each round that leaves something ends with one more tube stuck.
        for (int round = 0; round < MOST_KINDS && left > 0 && plan(left); round++) {
            left = giveByWay(left);
        }
        owed += left;
        books[OUT] += sum - left;
        return till.coinsGiven();
    }

    /** Gives the planned coins, the greatest first, until a tube jams; answers what is left. */
    private int giveByWay(int sum) {
        int left = sum;
        for (int i = till.size - 1; i >= 0; i--) {
            Kind tube = till.byValue[i];
            int planned = tube.inWay;
            for (int n = 0; n < planned; n++) {
                if (!tube.release()) {
                    return left;
                }
                left -= tube.value;
            }
        }
        return left;
    }

    /** A coin with its tube, or a note. */
    private static final class Kind {
        int value = 0;
        boolean isNote = false;
        int room = 0;
        int inTube = 0;
        int inBox = 0;
        boolean isStuck = false;
        int jamsBehind = NONE;
        int inWay = 0;
        int given = 0;

        int free() {
            return room - inTube;
        }

        boolean gives() {
            return !isNote && !isStuck;
        }

        /** How many coins may be given if so many must stay. */
        int spare(int reserve) {
            return gives() ? Math.max(0, inTube - reserve) : 0;
        }

        /** Whether a coin comes out; if the tube jams instead, it is stuck. */
        boolean release() {
            if (jamsBehind == 0) {
                isStuck = true;
                jamsBehind = NONE;
                return false;
            }
            if (jamsBehind > 0) {
                jamsBehind--;
            }
            inTube--;
            given++;
            return true;
        }
    }

    /** The kinds with their tubes and the box, and the prices. */
    private static final class Till {
        // All six are there from the start, so that no place is ever null; the first 'size' are in use.
        final Kind[] kinds = new Kind[MOST_KINDS];
        final Kind[] byValue = new Kind[MOST_KINDS];
        final int[] prices = new int[MOST_PRICES];
        int size = 0;

        Till() {
            for (int k = 0; k < MOST_KINDS; k++) {
                kinds[k] = new Kind();
                byValue[k] = kinds[k];
            }
        }

        Kind find(int k) {
            return k < 0 || k >= size ? null : kinds[k];
        }

        Kind findCoin(int k) {
            Kind one = find(k);
            return one == null || one.isNote ? null : one;
        }

        int add(int value, int room, boolean isNote) {
            if (size >= MOST_KINDS || hasValue(value)) {
                return NONE;
            }
            Kind fresh = kinds[size];
            fresh.value = value;
            fresh.room = room;
            fresh.isNote = isNote;
            int place = size;
            for (; place > 0 && byValue[place - 1].value > value; place--) {
                byValue[place] = byValue[place - 1];
            }
            byValue[place] = fresh;
            size++;
            return size - 1;
        }

        boolean hasValue(int value) {
            for (int k = 0; k < size; k++) {
                if (kinds[k].value == value) {
                    return true;
                }
            }
            return false;
        }

        /** What is in the tube that has the fewest of those that give; 0 if none gives. */
        int fewestInTube() {
            int fewest = NONE;
            for (int k = 0; k < size; k++) {
                Kind one = kinds[k];
                if (one.gives() && (fewest == NONE || one.inTube < fewest)) {
                    fewest = one.inTube;
                }
            }
            return Math.max(0, fewest);
        }

        /** Makes the sums those that can be given if so many coins must stay in every tube. */
        void collect(Sums sums, int reserve) {
            sums.onlyZero();
            for (int k = 0; k < size; k++) {
                sums.addCoins(kinds[k].value, kinds[k].spare(reserve));
            }
        }

        /** The sums if one coin less must stay in every tube. */
        void collectOneOfEach(Sums sums) {
            for (int k = 0; k < size; k++) {
                if (kinds[k].gives()) {
                    sums.addCoins(kinds[k].value, 1);
                }
            }
        }

        /**
         * Whether something may be taken, by the sums that can be given without it. The credit and the
         * value of the note are those that there would be with it.
         */
        boolean mayTake(Kind one, boolean fits, Sums sums, int credit, int noteValue) {
            if (credit > MOST_SUM) {
                return false;
            }
            int own = fits && one.gives() ? one.value : 0;
            if (!sums.hasWith(credit - noteValue, own)) {
                return false;
            }
            for (int p = 0; p < MOST_PRICES; p++) {
                int asked = prices[p];
                if (asked > 0 && asked <= credit && !sums.hasWith(credit - asked, own)) {
                    return false;
                }
            }
            return true;
        }

        int coinsInWay() {
            int all = 0;
            for (int k = 0; k < size; k++) {
                all += kinds[k].inWay;
            }
            return all;
        }

        int coinsGiven() {
            int all = 0;
            for (int k = 0; k < size; k++) {
                all += kinds[k].given;
            }
            return all;
        }

        void forgetGiven() {
            for (int k = 0; k < size; k++) {
                kinds[k].given = 0;
            }
        }

        int tubesValue() {
            int all = 0;
            for (int k = 0; k < size; k++) {
                all += kinds[k].inTube * kinds[k].value;
            }
            return all;
        }

        int boxValue() {
            int all = 0;
            for (int k = 0; k < size; k++) {
                all += kinds[k].inBox * kinds[k].value;
            }
            return all;
        }

        void clearBox() {
            for (int k = 0; k < size; k++) {
                kinds[k].inBox = 0;
            }
        }
    }

    /** A set of the sums 0 .. 999, a bit each. */
    private static final class Sums {
        private static final int BITS = 64;
        private static final int WORDS = MOST_SUM / BITS + 1;

        private final long[] words = new long[WORDS];

        void onlyZero() {
            Arrays.fill(words, 0L);
            words[0] = 1L;
        }

        void copyOf(Sums other) {
            System.arraycopy(other.words, 0, words, 0, WORDS);
        }

        /** Adds what can be reached with up to n more coins: parts of 1, 2, 4 .. coins make every number. */
        void addCoins(int value, int n) {
            int left = n;
            for (int part = 1; part <= MOST_ROOM && left > 0; part *= 2) {
                int many = Math.min(part, left);
                addShifted(many * value);
                left -= many;
            }
        }

        private void addShifted(int by) {
            if (by <= 0) {
                return;
            }
            int far = by / BITS;
            int bits = by % BITS;
            // From the top down: each word is made of words below it that are still as they were.
            for (int i = WORDS - 1; i >= far; i--) {
                long moved = words[i - far] << bits;
                if (bits > 0 && i > far) {
                    moved |= words[i - far - 1] >>> (BITS - bits);
                }
                words[i] |= moved;
            }
        }

        boolean has(int sum) {
            if (sum < 0 || sum > MOST_SUM) {
                return false;
            }
            return (words[sum / BITS] >>> (sum % BITS) & 1L) != 0L;
        }

        /** Whether it has the sum, or would with one more coin of value own (0: there is none). */
        boolean hasWith(int sum, int own) {
            return has(sum) || own > 0 && has(sum - own);
        }

        /** How many of the sums 1 .. n it has. */
        int howMany(int n) {
            int all = 0;
            for (int sum = 1; sum <= n && sum <= MOST_SUM; sum++) {
                if (has(sum)) {
                    all++;
                }
            }
            return all;
        }
    }

    /** Chooses the fewest coins for a sum. */
    private static final class Ways {
        // More than all tubes together hold.
        private static final int UNREACHED = 1000;

        // Row j, place s: the fewest coins for s of the j kinds of the least values.
        private final int[][] fewest = new int[MOST_KINDS][MOST_SUM + 1];

        Ways() {
            Arrays.fill(fewest[0], UNREACHED);
            fewest[0][0] = 0;
        }

        /** Sets in each kind's inWay the fewest coins, so many staying in every tube; false if there is no way. */
        boolean choose(Till till, int sum, int reserve) {
            if (sum < 0 || sum > MOST_SUM) {
                return false;
            }
            for (int j = 1; j < till.size; j++) {
                System.arraycopy(fewest[j - 1], 0, fewest[j], 0, sum + 1);
                Kind tube = till.byValue[j - 1];
                addCoins(fewest[j], sum, tube.value, tube.spare(reserve));
            }
            int left = sum;
            for (int j = till.size - 1; j >= 0; j--) {
                Kind tube = till.byValue[j];
                tube.inWay = mostOfFewest(fewest[j], left, tube.value, tube.spare(reserve));
                left -= tube.inWay * tube.value;
            }
            return left == 0;
        }

        private static void addCoins(int[] row, int sum, int value, int n) {
            int left = n;
            for (int part = 1; part <= MOST_ROOM && left > 0; part *= 2) {
                int many = Math.min(part, left);
                addPart(row, sum, many * value, many);
                left -= many;
            }
        }

        private static void addPart(int[] row, int sum, int worth, int many) {
            for (int s = sum; s >= worth; s--) {
                int with = row[s - worth] + many;
                if (with < row[s]) {
                    row[s] = with;
                }
            }
        }

        /** How many of this value, at most n, the fewest coins for the sum have; of several numbers the greatest. */
        private static int mostOfFewest(int[] lesser, int sum, int value, int n) {
            int best = UNREACHED - 1;
            int chosen = 0;
            for (int many = 0; many <= n && many * value <= sum; many++) {
                int all = lesser[sum - many * value] + many;
                if (all <= best) {
                    best = all;
                    chosen = many;
                }
            }
            return chosen;
        }
    }

    /** Looks for the fewest coins that put the light out. */
    private static final class Refill {
        final int[] added = new int[MOST_KINDS];
        // What can be given with so many coins added.
        private final Sums[] levels = new Sums[MOST_NEED + 1];

        Refill() {
            for (int i = 0; i <= MOST_NEED; i++) {
                levels[i] = new Sums();
            }
        }

        /** How many coins put the light out, and in added which; NONE if so many do not do. */
        int fewest(Till till, int most) {
            till.collect(levels[0], 0);
            for (int total = 0; total <= most && total <= MOST_NEED; total++) {
                Arrays.fill(added, 0);
                if (putsOut(this, till, 0, 0, total)) {
                    return total;
                }
            }
            return NONE;
        }

        /** Adds coins up to the total, none of a kind before 'from', until the light is out. */
        private static boolean putsOut(Refill refill, Till till, int level, int from, int total) {
            if (level >= total || level >= MOST_NEED) {
                return refill.isOut(till, level);
            }
            // The lesser kind first: so the first find has the most of kind 0, then of kind 1 ..
            for (int k = from; k < till.size; k++) {
                Kind tube = till.kinds[k];
                // A coin in a tube that doesn't give changes nothing that can be given.
                if (tube.gives() && refill.added[k] < tube.free()) {
                    refill.added[k]++;
                    refill.levels[level + 1].copyOf(refill.levels[level]);
                    refill.levels[level + 1].addCoins(tube.value, 1);
                    if (putsOut(refill, till, level + 1, k, total)) {
                        return true;
                    }
                    refill.added[k]--;
                }
            }
            return false;
        }

        private boolean isOut(Till till, int level) {
            for (int k = 0; k < till.size; k++) {
                Kind one = till.kinds[k];
                int noteValue = one.isNote ? one.value : 0;
                boolean fits = added[k] < one.free();
                if (!till.mayTake(one, fits, levels[level], one.value, noteValue)) {
                    return false;
                }
            }
            return true;
        }
    }
}
