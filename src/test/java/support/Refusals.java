/**
 * What is refused, told a second time: for each method the refusal that is due (UNKNOWN, OUTSIDE, FULL), or FINE. The
 * answers of mean, know and value are LEAST and these below nothing.
 */
final class Refusals {
    static final int FINE = 0;

    private static final int UNKNOWN = CarryUp.UNKNOWN, OUTSIDE = CarryUp.OUTSIDE, FULL = CarryUp.FULL;

    /** How many SORTS each CALL has, -1 if it is not told. */
    private final int[] sorts;

    Refusals(int... sorts) {
        this.sorts = sorts;
    }

    /** The first of these that fits, FINE if none does. */
    private static int first(int... refusals) {
        for (int refusal : refusals) {
            if (refusal != FINE) return refusal;
        }
        return FINE;
    }

    private static int unless(boolean fits, int refusal) {
        return fits ? FINE : refusal;
    }

    private static boolean within(int number, int least, int most) {
        return least <= number && number <= most;
    }

    private boolean isTold(int call) {
        return within(call, 0, 5) && sorts[call] >= 0;
    }

    boolean hasSorts(int call) {
        return within(call, 0, 5) && sorts[call] > 0;
    }

    private int ofSort(int call, int sort) {
        return unless(isTold(call) && within(sort, 0, sorts[call] - 1), UNKNOWN);
    }

    private static int ofBag(int bag) {
        return unless(within(bag, 0, 255), OUTSIDE);
    }

    private static int ofPart(int part) {
        return unless(within(part, 0, 1), OUTSIDE);
    }

    private int ofStops(int row, int n) {
        if (!within(n, 1, 6)) return OUTSIDE;
        for (int i = 0; i < n; i++) {
            int stop = row >> 4 * i & 15;
            if (stop != 6 && !hasSorts(stop)) return UNKNOWN;
        }
        return FINE;
    }

    private static int ofTwice(int row, int n) {
        for (int i = 0; i < n; i++) {
            for (int k = 0; k < i; k++) {
                int stop = row >> 4 * i & 15;
                if (stop != 6 && stop == (row >> 4 * k & 15)) return OUTSIDE;
            }
        }
        return FINE;
    }

    private int ofRow(int row, int n) {
        return first(ofStops(row, n), ofTwice(row, n));
    }

    // ---- the day

    static int write(int had, int n) {
        return first(unless(within(n, 1, 8), OUTSIDE), unless(had + n <= 200, FULL));
    }

    static int thing(int thing, int what) {
        return first(unless(within(thing, 0, 7), UNKNOWN), unless(within(what, 0, 2), OUTSIDE));
    }

    int call(int call, int what) {
        return first(unless(isTold(call), UNKNOWN), unless(within(what, 0, 6), OUTSIDE));
    }

    int sort(int call, int sort, int what) {
        return first(ofSort(call, sort), unless(within(what, 0, 3), OUTSIDE));
    }

    static int way(int a, int b) {
        return unless(within(a, 0, 5) && within(b, 0, 5), UNKNOWN);
    }

    static int may(int bag) {
        return ofBag(bag);
    }

    // ---- bags and rows

    int does(int bag, int call, int sort) {
        return first(ofSort(call, sort), ofBag(bag));
    }

    int chance(int bag, int call, int part) {
        return first(unless(hasSorts(call), UNKNOWN), ofBag(bag), ofPart(part));
    }

    /** Of mean and of all. */
    int mean(int bag, int row, int n, int part) {
        return first(ofRow(row, n), ofBag(bag), ofPart(part));
    }

    int end(int bag, int row, int n) {
        return first(ofRow(row, n), ofBag(bag));
    }

    int best(int row, int n) {
        return ofRow(row, n);
    }

    int sure(int row, int n, int a, int b) {
        return first(ofRow(row, n), unless(within(b, 1, 99) && within(a, 0, b), OUTSIDE));
    }

    int know(int row, int n, int call, int part) {
        boolean isIn = false;
        for (int i = 0; i < Math.min(n, 6); i++) isIn |= (row >> 4 * i & 15) == call;
        return first(ofStops(row, n), unless(hasSorts(call) && isIn, UNKNOWN), ofTwice(row, n), ofPart(part));
    }

    static int both(int n, int what) {
        return unless(within(n, 1, 3) && within(what, 0, 1), OUTSIDE);
    }

    int next(int place, int minute, int bag, int set) {
        boolean all = true;
        for (int c = 0; c < 6; c++) all &= (set >> c & 1) == 0 || hasSorts(c);
        return first(unless(within(place, 0, 5), UNKNOWN), unless(within(set, 0, 63), OUTSIDE), unless(all, UNKNOWN),
            unless(Integer.bitCount(set) <= 4, OUTSIDE), unless(within(minute, 0, 1439), OUTSIDE), ofBag(bag));
    }

    int value(int place, int minute, int bag, int set, int part) {
        return first(next(place, minute, bag, set), ofPart(part));
    }

    // ---- things and the book

    static int stands(int thing, int other) {
        return unless(within(thing, 0, 7) && within(other, 0, 7) && thing != other, UNKNOWN);
    }

    int visit(int visits, int call, int sort, int bag) {
        return first(ofSort(call, sort), ofBag(bag), unless(visits < 16, FULL));
    }

    static int saved(int set) {
        return ofBag(set);
    }

    static int most(int k) {
        return unless(within(k, 1, 3), OUTSIDE);
    }

    static int box(int what) {
        return unless(within(what, 0, 1), OUTSIDE);
    }

    int run(int seed, int bag, int row, int n, int what) {
        return first(ofRow(row, n), ofBag(bag), unless(within(seed, 0, 65535) && within(what, 0, 3), OUTSIDE));
    }

    static int count(int what) {
        return unless(within(what, 0, 5), OUTSIDE);
    }
}
