import java.util.ArrayList;
import java.util.List;

/**
 * The document told a second time, by other means than in CarryUp: fractions of any size, each outcome of
 * a ROW gone through by itself, every BAG and ROW tried. Only for calls that are not refused.
 */
final class Model {
    record Sort(int likely, int minutes, int all, int one) {
        boolean done(int bag) {
            for (int t = 0; t < 8; t++) {
                if (in(all, t) && !in(bag, t)) return false;
            }
            if (one == 0) return true;
            for (int t = 0; t < 8; t++) {
                if (in(one, t) && in(bag, t)) return true;
            }
            return false;
        }
    }

    static final class Call {
        int place, opens, shuts, worth, again, look;
        final List<Sort> sorts = new ArrayList<>();

        int likely() {
            return sorts.stream().mapToInt(Sort::likely).sum();
        }
    }

    /** One way in which a ROW may go. */
    private record Outcome(int gain, int minute, boolean all, int done, int bag) {
    }

    private record Visit(Sort sort, int bag) {
    }

    final int[] weight = {1, 1, 1, 1, 1, 1, 1, 1}, price = new int[8];
    final boolean[] tool = new boolean[8];
    final int[][] way = new int[6][6];
    final Call[] calls = new Call[6];
    int load = 40, purse = 999, begin = 480;
    private final List<Visit> book = new ArrayList<>();

    Model() {
        for (int a = 0; a < 6; a++) {
            for (int b = 0; b < 6; b++) way[a][b] = a == b ? 0 : 10;
        }
    }

    static boolean in(int bits, int thing) {
        return (bits >> thing & 1) == 1;
    }

    /** Does a text without a FAULT whose TOKENS stand apart. */
    void tell(String text) {
        for (String line : text.split(";")) {
            String[] t = line.trim().split(" +");
            switch (t[0]) {
                case "thing" -> {
                    int thing = t[1].charAt(0) - 'a';
                    weight[thing] = number(t[2]);
                    price[thing] = number(t[3]);
                    tool[thing] = t[4].equals("tool");
                }
                case "load" -> load = number(t[1]);
                case "purse" -> purse = number(t[1]);
                case "begin" -> begin = number(t[1]);
                case "way" -> {
                    way[number(t[1])][number(t[2])] = number(t[3]);
                    way[number(t[2])][number(t[1])] = number(t[3]);
                }
                case "call" -> {
                    Call call = new Call();
                    call.place = number(t[2]);
                    call.opens = number(t[3]);
                    call.shuts = number(t[4]);
                    call.worth = number(t[5]);
                    call.again = number(t[6]);
                    call.look = number(t[7]);
                    calls[number(t[1])] = call;
                }
                default -> {
                    Call call = calls[number(t[1])];
                    if (call != null && call.sorts.size() < 4) {
                        call.sorts.add(new Sort(number(t[2]), number(t[3]), things(t[4]), t.length > 6 ? things(t[6]) : 0));
                    }
                }
            }
        }
    }

    private static int number(String digits) {
        return Integer.parseInt(digits);
    }

    private static int things(String word) {
        int bits = 0;
        for (char c : word.equals("none") ? new char[0] : word.toCharArray()) bits |= 1 << c - 'a';
        return bits;
    }

    int thing(int thing, int what) {
        return what == 0 ? weight[thing] : what == 1 ? price[thing] : tool[thing] ? 1 : 0;
    }

    int call(int call, int what) {
        Call c = calls[call];
        return new int[] {c.place, c.opens, c.shuts, c.worth, c.again, c.look, c.sorts.size()}[what];
    }

    int sort(int call, int sort, int what) {
        Sort s = calls[call].sorts.get(sort);
        return new int[] {s.likely, s.minutes, s.all, s.one}[what];
    }

    int callsTold() {
        int told = 0;
        for (Call call : calls) told += call == null ? 0 : 1;
        return told;
    }

    int weightOf(int bag) {
        int sum = 0;
        for (int t = 0; t < 8; t++) sum += in(bag, t) ? weight[t] : 0;
        return sum;
    }

    boolean may(int bag) {
        int sum = 0;
        for (int t = 0; t < 8; t++) sum += in(bag, t) ? price[t] : 0;
        return sum <= purse && weightOf(bag) <= load;
    }

    int left(int bag, Sort sort) {
        if (!sort.done(bag)) return -1;
        int left = bag;
        for (int t = 0; t < 8; t++) {
            if (in(sort.all, t) && !tool[t]) left &= ~(1 << t);
        }
        for (int t = 0; t < 8; t++) {
            if (!in(sort.one, t) || !in(bag, t)) continue;
            if (!tool[t]) left &= ~(1 << t);
            break;
        }
        return left;
    }

    Fraction chance(int bag, int call) {
        int done = 0;
        for (Sort s : calls[call].sorts) done += s.done(bag) ? s.likely : 0;
        return Fraction.of(done, calls[call].likely());
    }

    /** The ROW gone with the SORTS told: sorts[c] of CALL c. */
    private Outcome go(int bag, int[] row, Sort[] sorts) {
        int place = 0, minute = begin, gain = 0, done = 0, left = bag;
        boolean all = true;
        for (int stop : row) {
            int to = stop == 6 ? 0 : calls[stop].place;
            minute += way[place][to];
            place = to;
            if (stop == 6) {
                left = bag;
                continue;
            }
            Call call = calls[stop];
            boolean late = minute > call.shuts;
            if (!late && minute < call.opens) minute = call.opens;
            if (!late && sorts[stop].done(left)) {
                gain += call.worth;
                minute += sorts[stop].minutes;
                left = left(left, sorts[stop]);
                done |= 1 << stop;
            } else {
                gain -= call.again;
                minute += late ? 0 : call.look;
                all = false;
            }
        }
        return new Outcome(gain, minute, all, done, left);
    }

    /** MEAN (what 0), ALL DONE (1), END (2) over all ways in which SORTS may fall; some CALL may be known. */
    private Fraction over(int bag, int[] row, int what, int knownCall, int knownSort) {
        Fraction sum = Fraction.NOTHING;
        int ways = 1;
        for (int stop : row) ways *= stop == 6 ? 1 : calls[stop].sorts.size();
        int latest = 0;
        for (int w = 0; w < ways; w++) {
            Sort[] sorts = new Sort[6];
            Fraction chance = Fraction.of(1, 1);
            int rest = w;
            for (int stop : row) {
                if (stop == 6) continue;
                int s = rest % calls[stop].sorts.size();
                rest /= calls[stop].sorts.size();
                sorts[stop] = calls[stop].sorts.get(s);
                if (stop == knownCall) chance = s == knownSort ? chance : Fraction.NOTHING;
                else chance = chance.times(Fraction.of(sorts[stop].likely, calls[stop].likely()));
            }
            Outcome o = go(bag, row, sorts);
            latest = Math.max(latest, o.minute);
            sum = sum.plus(chance.times(Fraction.of(what == 0 ? o.gain : o.all ? 1 : 0, 1)));
        }
        return what == 2 ? Fraction.of(latest, 1) : sum;
    }

    Fraction mean(int bag, int[] row) {
        return over(bag, row, 0, -1, -1);
    }

    Fraction all(int bag, int[] row) {
        return over(bag, row, 1, -1, -1);
    }

    int end(int bag, int[] row) {
        return (int) over(bag, row, 2, -1, -1).part(0);
    }

    private int bestKnowing(int[] row, int call, int sort) {
        int best = -1;
        Fraction most = null;
        for (int bag = 0; bag < 256; bag++) {
            if (!may(bag)) continue;
            Fraction mean = over(bag, row, 0, call, sort);
            if (most == null || mean.compareTo(most) > 0) {
                best = bag;
                most = mean;
            }
        }
        return best;
    }

    int best(int[] row) {
        return bestKnowing(row, -1, -1);
    }

    int sure(int[] row, int a, int b) {
        int sure = -1;
        for (int bag = 255; bag >= 0; bag--) {
            if (!may(bag) || sure != -1 && weightOf(bag) > weightOf(sure)) continue;
            if (all(bag, row).compareTo(Fraction.of(a, b)) >= 0) sure = bag;
        }
        return sure;
    }

    Fraction know(int[] row, int call) {
        Fraction known = Fraction.NOTHING;
        for (int s = 0; s < calls[call].sorts.size(); s++) {
            Fraction mean = over(bestKnowing(row, call, s), row, 0, call, s);
            known = known.plus(mean.times(Fraction.of(calls[call].sorts.get(s).likely, calls[call].likely())));
        }
        return known.less(mean(best(row), row));
    }

    /** The ROW and the BAG of BOTH, or null. */
    int[] both(int n) {
        List<int[]> rows = new ArrayList<>();
        rows(new int[0], n, rows);
        int[] both = null;
        Fraction most = null;
        for (int[] row : rows) {
            int bag = best(row);
            Fraction mean = mean(bag, row);
            if (most != null && mean.compareTo(most) <= 0) continue;
            most = mean;
            both = new int[] {packed(row), bag};
        }
        return both;
    }

    private void rows(int[] ahead, int n, List<int[]> rows) {
        if (ahead.length == n) {
            rows.add(ahead);
            return;
        }
        for (int c = 0; c < 6; c++) {
            boolean there = calls[c] == null || calls[c].sorts.isEmpty();
            for (int a : ahead) there |= a == c;
            if (there) continue;
            int[] longer = java.util.Arrays.copyOf(ahead, ahead.length + 1);
            longer[ahead.length] = c;
            rows(longer, n, rows);
        }
    }

    static int packed(int[] row) {
        int packed = 0;
        for (int i = row.length - 1; i >= 0; i--) packed = packed * 16 + row[i];
        return packed;
    }

    Fraction value(int place, int minute, int bag, int set) {
        Fraction most = Fraction.NOTHING;
        for (int c = 0; c < 6; c++) {
            if (!in(set, c)) continue;
            Fraction going = going(c, place, minute, bag, set);
            if (going.compareTo(most) > 0) most = going;
        }
        return most;
    }

    int next(int place, int minute, int bag, int set) {
        Fraction most = value(place, minute, bag, set);
        if (most.equals(Fraction.NOTHING)) return -1;
        for (int c = 0; c < 6; c++) {
            if (in(set, c) && going(c, place, minute, bag, set).equals(most)) return c;
        }
        return -1;
    }

    private Fraction going(int c, int place, int minute, int bag, int set) {
        Call call = calls[c];
        int rest = set - (1 << c);
        int there = minute + way[place][call.place];
        if (there > call.shuts) return value(call.place, there, bag, rest).less(Fraction.of(call.again, 1));
        int start = Math.max(there, call.opens);
        Fraction sum = Fraction.NOTHING;
        for (Sort s : call.sorts) {
            Fraction then = s.done(bag)
                ? value(call.place, start + s.minutes, left(bag, s), rest).plus(Fraction.of(call.worth, 1))
                : value(call.place, start + call.look, bag, rest).less(Fraction.of(call.again, 1));
            sum = sum.plus(then.times(Fraction.of(s.likely, call.likely())));
        }
        return sum;
    }

    boolean stands(int thing, int other) {
        for (Call call : calls) {
            if (call == null) continue;
            for (Sort s : call.sorts) {
                if (in(s.all, other) || in(s.one, other) && !in(s.one, thing)) return false;
            }
        }
        return true;
    }

    int idle() {
        int idle = 255;
        for (Call call : calls) {
            if (call == null) continue;
            for (Sort s : call.sorts) idle &= ~s.all & ~s.one;
        }
        return idle;
    }

    void visit(int call, int sort, int bag) {
        book.add(new Visit(calls[call].sorts.get(sort), bag));
    }

    int saved(int set) {
        return (int) book.stream().filter(v -> !v.sort.done(v.bag) && v.sort.done(v.bag | set)).count();
    }

    int most(int k) {
        int most = -1;
        for (int set = 255; set >= 0; set--) {
            if (Integer.bitCount(set) == k && (most == -1 || saved(set) >= saved(most))) most = set;
        }
        return most;
    }

    int doneBy(int bag) {
        return (int) book.stream().filter(v -> v.sort.done(bag)).count();
    }

    int box() {
        int box = 0;
        for (int bag = 1; bag < 256; bag++) {
            if (!may(bag) || doneBy(bag) < doneBy(box)) continue;
            if (doneBy(bag) > doneBy(box) || weightOf(bag) < weightOf(box)) box = bag;
        }
        return box;
    }

    int run(int seed, int bag, int[] row, int what) {
        long number = seed;
        Sort[] sorts = new Sort[6];
        for (int i = 0; i < row.length; i++) {
            int stop = row[i];
            if (stop == 6) continue;
            // the minute at which he comes there: the ROW ends ahead of it, but for the way to it
            int[] ahead = java.util.Arrays.copyOf(row, i);
            int place = i == 0 || row[i - 1] == 6 ? 0 : calls[row[i - 1]].place;
            if (go(bag, ahead, sorts).minute + way[place][calls[stop].place] > calls[stop].shuts) continue;
            number = (number * 25173 + 13849) % 65536;
            long drawn = number / 64 % calls[stop].likely();
            for (Sort s : calls[stop].sorts) {
                if (drawn >= 0 && drawn < s.likely) sorts[stop] = s;
                drawn -= s.likely;
            }
        }
        Outcome o = go(bag, row, sorts);
        return what == 0 ? o.gain + 1000 : what == 1 ? o.minute : what == 2 ? o.done : o.bag;
    }
}
