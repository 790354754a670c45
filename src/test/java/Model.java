import java.util.ArrayList;
import java.util.List;

/**
 * The document over again, by trying out all ways: slow, for small tubes alone. It shares no thought
 * with the program but the document's words.
 */
final class Model {
    static final int NONE = -1;

    private static final class Kind {
        int value;
        boolean note;
        int room;
        int tube;
        int box;
        boolean stuck;
        int jam = NONE;
        int gave;
    }

    private final List<Kind> kinds = new ArrayList<>();
    private final int[] prices = new int[6];
    private int mode;
    private int credit;
    private int owed;
    private Kind held;
    private int put;
    private int sold;
    private int out;
    private int filled;
    private int emptied;
    private int lost;

    private Kind any(int k) {
        return k >= 0 && k < kinds.size() ? kinds.get(k) : null;
    }

    private Kind tube(int k) {
        Kind kind = any(k);
        return kind == null || kind.note ? null : kind;
    }

    int coin(int value, int room) {
        return room < 0 || room > 20 ? NONE : come(value, room, false);
    }

    int note(int value) {
        return come(value, 0, true);
    }

    private int come(int value, int room, boolean note) {
        if (value < 1 || value > 200 || credit > 0 || kinds.size() == 6) {
            return NONE;
        }
        for (Kind kind : kinds) {
            if (kind.value == value) {
                return NONE;
            }
        }
        Kind kind = new Kind();
        kind.value = value;
        kind.room = room;
        kind.note = note;
        kinds.add(kind);
        return kinds.size() - 1;
    }

    boolean price(int p, int v) {
        if (p < 0 || p > 5 || v < 0 || v > 300 || credit > 0) {
            return false;
        }
        prices[p] = v;
        return true;
    }

    boolean mode(int m) {
        if (m == 0 || m == 1) {
            mode = m;
            return true;
        }
        return false;
    }

    boolean fill(int k, int n) {
        Kind kind = tube(k);
        if (kind == null || n < 0 || (long) kind.tube + n > kind.room) {
            return false;
        }
        kind.tube += n;
        filled += n * kind.value;
        return true;
    }

    boolean stuck(int k, boolean is) {
        Kind kind = tube(k);
        if (kind == null || kind.stuck == is) {
            return false;
        }
        kind.stuck = is;
        return true;
    }

    boolean jam(int k, int n) {
        Kind kind = tube(k);
        if (kind == null || n < -1 || n > 99) {
            return false;
        }
        kind.jam = n;
        return true;
    }

    int put(int k) {
        Kind kind = any(k);
        if (kind == null) {
            return NONE;
        }
        if (takes(k) == 0) {
            return 0;
        }
        putIn(kind);
        put += kind.value;
        return 1;
    }

    private void putIn(Kind kind) {
        credit += kind.value;
        if (kind.note) {
            held = kind;
        } else if (kind.tube < kind.room) {
            kind.tube++;
        } else {
            kind.box++;
        }
    }

    /** Puts it in, looks whether that may be, and takes it out again. */
    int takes(int k) {
        Kind kind = any(k);
        if (kind == null) {
            return NONE;
        }
        if (kind.note && held != null) {
            return 0;
        }
        Kind heldBefore = held;
        int tubeBefore = kind.tube;
        int boxBefore = kind.box;
        putIn(kind);
        boolean may = credit <= 999 && canGive(credit - (held == null ? 0 : held.value));
        for (int price : prices) {
            if (may && price > 0 && price <= credit) {
                may = canGive(credit - price);
            }
        }
        credit -= kind.value;
        held = heldBefore;
        kind.tube = tubeBefore;
        kind.box = boxBefore;
        return may ? 1 : 0;
    }

    int buy(int p) {
        if (p < 0 || p > 5 || prices[p] == 0 || prices[p] > credit) {
            return NONE;
        }
        int rest = credit - prices[p];
        sold += prices[p];
        if (held != null) {
            held.box++;
        }
        held = null;
        credit = 0;
        return give(rest);
    }

    int refund() {
        if (credit == 0) {
            return NONE;
        }
        int rest = credit;
        if (held != null) {
            rest -= held.value;
            out += held.value;
        }
        held = null;
        credit = 0;
        return give(rest);
    }

    int pay() {
        if (owed == 0 || owed > 999 || !canGive(owed)) {
            return NONE;
        }
        int sum = owed;
        owed = 0;
        return give(sum);
    }

    private int give(int sum) {
        for (Kind kind : kinds) {
            kind.gave = 0;
        }
        int left = sum;
        int coins = 0;
        while (left > 0) {
            int[] way = theWay(left);
            if (way == null) {
                owed += left;
                return coins;
            }
            Kind jammed = null;
            while (jammed == null && left > 0) {
                int next = greatest(way);
                Kind kind = kinds.get(next);
                if (kind.jam == 0) {
                    jammed = kind;
                    kind.stuck = true;
                    kind.jam = NONE;
                } else {
                    kind.jam = kind.jam == NONE ? NONE : kind.jam - 1;
                    kind.tube--;
                    kind.gave++;
                    way[next]--;
                    left -= kind.value;
                    out += kind.value;
                    coins++;
                }
            }
        }
        return coins;
    }

    private int greatest(int[] way) {
        int best = NONE;
        for (int k = 0; k < way.length; k++) {
            if (way[k] > 0 && (best == NONE || kinds.get(k).value > kinds.get(best).value)) {
                best = k;
            }
        }
        return best;
    }

    int gave(int k) {
        return any(k) == null ? NONE : any(k).gave;
    }

    int way(int sum, int k) {
        if (sum < 0 || sum > 999 || any(k) == null) {
            return NONE;
        }
        int[] way = theWay(sum);
        return way == null ? NONE : way[k];
    }

    int coins(int sum) {
        if (sum < 0 || sum > 999) {
            return NONE;
        }
        int[] way = theWay(sum);
        return way == null ? NONE : total(way);
    }

    int givable(int n) {
        if (n < 0 || n > 999) {
            return NONE;
        }
        int many = 0;
        for (int sum = 1; sum <= n; sum++) {
            if (canGive(sum)) {
                many++;
            }
        }
        return many;
    }

    boolean light() {
        int creditNow = credit;
        Kind heldNow = held;
        credit = 0;
        held = null;
        boolean on = false;
        for (int k = 0; k < kinds.size(); k++) {
            on |= takes(k) == 0;
        }
        credit = creditNow;
        held = heldNow;
        return on;
    }

    int need(int what) {
        if (what != 0 && (what < 10 || any(what - 10) == null)) {
            return NONE;
        }
        int[] best = null;
        for (int total = 0; total <= 4 && best == null; total++) {
            best = needOf(new int[kinds.size()], 0, total, null);
        }
        if (best == null) {
            return NONE;
        }
        return what == 0 ? total(best) : best[what - 10];
    }

    /** Tries all numbers of coins from kind k on, in no clever order, and keeps the best. */
    private int[] needOf(int[] numbers, int k, int left, int[] best) {
        if (k == numbers.length) {
            if (left == 0 && !lightWith(numbers) && (best == null || before(numbers, best))) {
                return numbers.clone();
            }
            return best;
        }
        Kind kind = kinds.get(k);
        int most = kind.note ? 0 : Math.min(left, kind.room - kind.tube);
        int[] found = best;
        for (int n = 0; n <= most; n++) {
            numbers[k] = n;
            found = needOf(numbers, k + 1, left - n, found);
        }
        numbers[k] = 0;
        return found;
    }

    private static boolean before(int[] a, int[] b) {
        for (int k = 0; k < a.length; k++) {
            if (a[k] != b[k]) {
                return a[k] > b[k];
            }
        }
        return false;
    }

    private boolean lightWith(int[] numbers) {
        for (int k = 0; k < numbers.length; k++) {
            kinds.get(k).tube += numbers[k];
        }
        boolean on = light();
        for (int k = 0; k < numbers.length; k++) {
            kinds.get(k).tube -= numbers[k];
        }
        return on;
    }

    int look(int what) {
        int inTubes = 0;
        int inBox = 0;
        for (Kind kind : kinds) {
            inTubes += kind.tube * kind.value;
            inBox += kind.box * kind.value;
        }
        int[] facts = {kinds.size(), credit, owed, kinds.indexOf(held), mode,
            inTubes + inBox + (held == null ? 0 : held.value), inBox};
        int[] books = {put, sold, out, filled, emptied, lost};
        if (what >= 0 && what < facts.length) {
            return facts[what];
        }
        return what >= 10 && what <= 15 ? books[what - 10] : -1000000;
    }

    int kind(int k, int what) {
        Kind kind = any(k);
        if (kind == null || what < 0 || what > 6) {
            return -2;
        }
        int[] facts = {kind.value, kind.note ? 1 : 0, kind.room, kind.tube, kind.box, kind.stuck ? 1 : 0, kind.jam};
        return facts[what];
    }

    int priced(int p) {
        return p >= 0 && p <= 5 ? prices[p] : 0;
    }

    int empty() {
        int sum = look(6);
        for (Kind kind : kinds) {
            kind.box = 0;
        }
        emptied += sum;
        return sum;
    }

    boolean drain(int k, int n) {
        Kind kind = tube(k);
        if (kind == null || n < 0 || n > kind.tube || credit > 0) {
            return false;
        }
        kind.tube -= n;
        emptied += n * kind.value;
        return true;
    }

    int count(int k, int n) {
        Kind kind = tube(k);
        if (kind == null || n < 0 || n > kind.room || credit > 0) {
            return -1000000;
        }
        int few = (kind.tube - n) * kind.value;
        kind.tube = n;
        lost += few;
        return few;
    }

    private static int total(int[] numbers) {
        int all = 0;
        for (int n : numbers) {
            all += n;
        }
        return all;
    }

    private boolean canGive(int sum) {
        return canGive(sum, 0);
    }

    private boolean canGive(int sum, int k) {
        if (sum == 0) {
            return true;
        }
        if (k == kinds.size()) {
            return false;
        }
        Kind kind = kinds.get(k);
        for (int n = 0; n <= most(kind) && n * kind.value <= sum; n++) {
            if (canGive(sum - n * kind.value, k + 1)) {
                return true;
            }
        }
        return false;
    }

    private static int most(Kind kind) {
        return kind.note || kind.stuck ? 0 : kind.tube;
    }

    private int[] theWay(int sum) {
        return best(new int[kinds.size()], 0, sum, null);
    }

    /** Tries all ways from kind k on, and keeps the best. */
    private int[] best(int[] way, int k, int left, int[] sofar) {
        if (k == way.length) {
            return left == 0 && (sofar == null || better(way, sofar)) ? way.clone() : sofar;
        }
        Kind kind = kinds.get(k);
        int[] found = sofar;
        for (int n = 0; n <= most(kind) && n * kind.value <= left; n++) {
            way[k] = n;
            found = best(way, k + 1, left - n * kind.value, found);
        }
        way[k] = 0;
        return found;
    }

    private boolean better(int[] a, int[] b) {
        if (mode == 1 && leftInFewest(a) != leftInFewest(b)) {
            return leftInFewest(a) > leftInFewest(b);
        }
        if (total(a) != total(b)) {
            return total(a) < total(b);
        }
        for (int value = 200; value >= 1; value--) {
            for (int k = 0; k < a.length; k++) {
                if (kinds.get(k).value == value && a[k] != b[k]) {
                    return a[k] > b[k];
                }
            }
        }
        return false;
    }

    private int leftInFewest(int[] way) {
        int fewest = Integer.MAX_VALUE;
        for (int k = 0; k < way.length; k++) {
            Kind kind = kinds.get(k);
            if (!kind.note && !kind.stuck) {
                fewest = Math.min(fewest, kind.tube - way[k]);
            }
        }
        return fewest;
    }
}
