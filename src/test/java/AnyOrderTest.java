import java.util.function.LongSupplier;

/**
 * All promises: runs of 512 calls in any order on an object each, texts with and without a FAULT among them and calls
 * that are to be refused, each answer against the second telling of the document (support: Faults, Model, Refusals).
 */
public final class AnyOrderTest {
    private static final int RUNS = 40, CALLS = 512, WAYS_AT_MOST = 16;

    private final CarryUp x = new CarryUp();
    private final Model model = new Model();
    private final StringBuilder text = new StringBuilder();
    private final Dice dice;
    private final String name;
    private Refusals refusals = new Refusals(-1, -1, -1, -1, -1, -1);
    private int visits;
    private int asked;
    private int answered;

    private AnyOrderTest(int run) {
        name = "run " + run + ", call ";
        dice = new Dice(run * 7919L + 5);
    }

    public static void main(String[] args) {
        int asked = 0, answered = 0;
        for (int i = 0; i < RUNS; i++) {
            AnyOrderTest run = new AnyOrderTest(i);
            while (run.asked < CALLS) run.ask();
            asked += run.asked;
            answered += run.answered;
        }
        Check.yes("most calls are answered: " + answered + " of " + asked, answered > asked / 2 && answered < asked);
        Check.end();
    }

    private void ask() {
        switch (dice.below(12)) {
            case 0: askText(); break;
            case 1: askTold(); break;
            case 2: askBag(); break;
            case 3: case 4: askRow(); break;
            case 5: askChoice(); break;
            case 6: askKnow(); break;
            case 7: askNow(); break;
            case 8: askThings(); break;
            case 9: askBook(); break;
            case 10: askVisit(); break;
            default: askRun(); break;
        }
    }

    private void due(String what, long got, int refusal, LongSupplier want) {
        asked++;
        if (refusal == Refusals.FINE) answered++;
        Check.due(name + asked + ": " + what, got, refusal == Refusals.FINE ? want.getAsLong() : refusal);
    }

    private void dueOfMean(String what, long got, int refusal, LongSupplier want) {
        asked++;
        if (refusal == Refusals.FINE) answered++;
        Check.due(name + asked + ": " + what, got, refusal == Refusals.FINE ? want.getAsLong() : CarryUp.LEAST - refusal);
    }

    // ---- numbers to ask with: as they should be, most of them

    private int mostly(int bound) {
        return dice.below(20) == 0 ? dice.any() : dice.below(bound);
    }

    private int anySet() {
        int set = 0;
        for (int c = 0; c < 6; c++) {
            if (refusals.hasSorts(c) && dice.below(3) > 0 || dice.below(40) == 0) set |= 1 << c;
        }
        return dice.below(20) == 0 ? dice.any() : set;
    }

    /** n stops: CALLS that have SORTS, most of them, and HOME here and there. */
    private int anyRow(int n) {
        int row = 0, used = 0;
        for (int i = 0; i < n && i < 8; i++) {
            int stop = dice.below(6);
            boolean fits = refusals.hasSorts(stop) && (used >> stop & 1) == 0;
            if (!fits && dice.below(30) > 0) stop = 6;
            used |= 1 << stop;
            row |= stop << 4 * i;
        }
        return dice.below(4) == 0 && n > 0 && n < 6 ? row | dice.below(99) << 4 * n : row;
    }

    private int anyLength() {
        return dice.below(25) == 0 ? dice.any() : dice.of(1, 6);
    }

    private static int[] stops(int row, int n) {
        int[] stops = new int[n];
        for (int i = 0; i < n; i++) stops[i] = row >> 4 * i & 15;
        return stops;
    }

    /** In how many ways a ROW may go, as the Model goes through them; only of ROWS that are not refused. */
    private int ways(int row, int n) {
        int ways = 1;
        for (int stop : stops(row, n)) ways *= stop == 6 ? 1 : model.calls[stop].sorts.size();
        return ways;
    }

    // ---- promises 2 to 5

    private void askText() {
        String more = Texts.of(dice);
        for (int i = 0; i < more.length(); i += 8) write(more.substring(i, Math.min(more.length(), i + 8)));
        if (dice.below(8) == 0) write("");
        if (dice.below(3) == 0) due("fault", x.fault(), Refusals.FINE, () -> Faults.of(text.toString()));
        if (dice.below(6) > 0) askDay();
        if (dice.below(3) > 0) {
            due("erase", x.erase(), Refusals.FINE, text::length);
            text.setLength(0);
        }
    }

    private void write(String more) {
        int refusal = Refusals.write(text.length(), more.length());
        if (refusal == Refusals.FINE) text.append(more);
        due("write '" + more + "'", x.write(Check.bytes(more), more.length()), refusal, text::length);
    }

    private void askDay() {
        String done = text.toString();
        boolean faulty = Faults.of(done) != CarryUp.NONE;
        due("day of '" + done + "'", x.day(), faulty ? CarryUp.NOT : Refusals.FINE, () -> done.split(";").length);
        if (faulty) return;
        // the Model reads TOKENS that stand apart
        model.tell(done.replaceAll("[a-z]+|[0-9]+", " $0 "));
        text.setLength(0);
        int[] sorts = new int[6];
        for (int c = 0; c < 6; c++) sorts[c] = model.calls[c] == null ? -1 : model.calls[c].sorts.size();
        refusals = new Refusals(sorts);
    }

    // ---- promises 6 to 9, 29

    private void askTold() {
        int thing = mostly(8), what = mostly(7);
        due("thing " + thing + " " + what, x.thing(thing, what), Refusals.thing(thing, what), () -> model.thing(thing, what));
        int call = mostly(6), sort = mostly(3);
        due("call " + call + " " + what, x.call(call, what), refusals.call(call, what), () -> model.call(call, what));
        due("sort " + call + " " + sort + " " + what, x.sort(call, sort, what), refusals.sort(call, sort, what), () -> model.sort(call, sort, what));
        int a = mostly(6), b = mostly(6);
        due("way " + a + " " + b, x.way(a, b), Refusals.way(a, b), () -> model.way[a][b]);
        due("count " + what, x.count(what), Refusals.count(what), () -> count(what));
    }

    private int count(int what) {
        switch (what) {
            case 0: return model.callsTold();
            case 1: return text.length();
            case 2: return visits;
            case 3: return model.load;
            case 4: return model.purse;
            default: return model.begin;
        }
    }

    // ---- promises 10 to 12

    private void askBag() {
        int bag = mostly(256), call = mostly(6), sort = mostly(3), part = mostly(2);
        due("may " + bag, x.may(bag), Refusals.may(bag), () -> model.may(bag) ? 1 : 0);
        due("does " + bag + " " + call + " " + sort, x.does(bag, call, sort), refusals.does(bag, call, sort),
            () -> model.left(bag, model.calls[call].sorts.get(sort)));
        due("chance " + bag + " " + call, x.chance(bag, call, part), refusals.chance(bag, call, part), () -> model.chance(bag, call).part(part));
    }

    // ---- promises 13 to 19

    private void askRow() {
        int n = anyLength(), row = anyRow(n), bag = mostly(256), part = mostly(2);
        String what = bag + " " + Integer.toHexString(row) + " " + n + " " + part;
        int refusal = refusals.mean(bag, row, n, part);
        dueOfMean("mean " + what, x.mean(bag, row, n, part), refusal, () -> model.mean(bag, stops(row, n)).part(part));
        due("all " + what, x.all(bag, row, n, part), refusal, () -> model.all(bag, stops(row, n)).part(part));
        due("end " + what, x.end(bag, row, n), refusals.end(bag, row, n), () -> model.end(bag, stops(row, n)));
    }

    private void askChoice() {
        int n = anyLength(), row = anyRow(n), b = dice.below(20) == 0 ? dice.any() : dice.of(1, 99);
        int a = dice.below(20) == 0 || b < 0 ? dice.any() : dice.of(0, Math.min(b, 100));
        int refusal = refusals.best(row, n);
        if (refusal == Refusals.FINE && ways(row, n) > WAYS_AT_MOST) return;
        String what = Integer.toHexString(row) + " " + n;
        due("best " + what, x.best(row, n), refusal, () -> model.best(stops(row, n)));
        due("sure " + what + " " + a + " " + b, x.sure(row, n, a, b), refusals.sure(row, n, a, b), () -> model.sure(stops(row, n), a, b));
        // the Model goes through every ROW of n with every BAG
        int k = dice.below(9) == 0 ? dice.any() : model.callsTold() < 3 ? dice.of(1, 3) : 1 + dice.below(5) / 4, part = mostly(2);
        if (k == 3 && model.callsTold() > 2) return;
        due("both " + k + " " + part, x.both(k, part), Refusals.both(k, part), () -> {
            int[] both = model.both(k);
            return both == null ? CarryUp.NONE : both[part];
        });
    }

    private void askKnow() {
        int n = anyLength(), row = anyRow(n), part = mostly(2);
        int call = n > 0 && n < 7 && dice.below(9) > 0 ? row >> 4 * dice.below(n) & 15 : mostly(6);
        int refusal = refusals.know(row, n, call, part);
        if (refusal == Refusals.FINE && ways(row, n) > WAYS_AT_MOST / 2) return;
        String what = "know " + Integer.toHexString(row) + " " + n + " " + call + " " + part;
        dueOfMean(what, x.know(row, n, call, part), refusal, () -> model.know(stops(row, n), call).part(part));
    }

    // ---- promises 20, 21

    private void askNow() {
        int place = mostly(6), minute = dice.below(20) == 0 ? dice.any() : dice.of(400, 700), bag = mostly(256), set = anySet(), part = mostly(2);
        String what = place + " " + minute + " " + bag + " " + set + " " + part;
        dueOfMean("value " + what, x.value(place, minute, bag, set, part), refusals.value(place, minute, bag, set, part),
            () -> model.value(place, minute, bag, set).part(part));
        due("next " + what, x.next(place, minute, bag, set), refusals.next(place, minute, bag, set), () -> model.next(place, minute, bag, set));
    }

    // ---- promises 22 to 28

    private void askThings() {
        int thing = mostly(8), other = mostly(8);
        due("stands " + thing + " " + other, x.stands(thing, other), Refusals.stands(thing, other), () -> model.stands(thing, other) ? 1 : 0);
        due("idle", x.idle(), Refusals.FINE, model::idle);
    }

    private void askBook() {
        int set = mostly(256), k = mostly(4), what = mostly(2);
        due("saved " + set, x.saved(set), Refusals.saved(set), () -> model.saved(set));
        due("most " + k, x.most(k), Refusals.most(k), () -> model.most(k));
        due("box " + what, x.box(what), Refusals.box(what), () -> what == 0 ? model.box() : model.doneBy(model.box()));
    }

    private void askVisit() {
        int call = mostly(6), sort = mostly(2), bag = mostly(256);
        int refusal = refusals.visit(visits, call, sort, bag);
        if (refusal == Refusals.FINE) {
            model.visit(call, sort, bag);
            visits++;
        }
        due("visit " + call + " " + sort + " " + bag, x.visit(call, sort, bag), refusal, () -> visits);
    }

    private void askRun() {
        int n = anyLength(), row = anyRow(n), bag = mostly(256), seed = mostly(65536), what = mostly(4);
        due("run " + seed + " " + bag + " " + Integer.toHexString(row) + " " + n + " " + what, x.run(seed, bag, row, n, what),
            refusals.run(seed, bag, row, n, what), () -> model.run(seed, bag, stops(row, n), what));
    }
}
