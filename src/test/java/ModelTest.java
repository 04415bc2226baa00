/** Promises 6 to 29: days made at random (the same ones each time), asked of CarryUp and of the Model. */
public final class ModelTest {
    private static final int DAYS = 400;

    private final CarryUp x = new CarryUp();
    private final Model model = new Model();
    private final Dice dice;
    private final String name;

    private ModelTest(int seed) {
        dice = new Dice(seed);
        name = "day " + seed + ": ";
    }

    public static void main(String[] args) {
        for (int i = 0; i < DAYS; i++) new ModelTest(i).ask();
        Check.end();
    }

    private void ask() {
        tellThings();
        tellPlaces();
        int calls = dice.of(1, 6);
        for (int c = 0; c < calls; c++) tellCall(dice.below(6));
        askTold();
        for (int i = 0; i < 6; i++) askBag(dice.below(256));
        for (int i = 0; i < 4; i++) askRow();
        askBoth();
        for (int i = 0; i < 3; i++) askNow();
        askThings();
        askBook();
    }

    private void tell(String text) {
        Check.tell(x, text);
        model.tell(text);
    }

    private void tellThings() {
        for (int t = 0; t < 8; t++) {
            if (dice.below(5) > 0) tell("thing " + (char) ('a' + t) + " " + dice.of(1, 20) + " " + dice.below(40) + (dice.below(3) == 0 ? " tool" : " part"));
        }
        if (dice.below(3) > 0) tell("load " + dice.of(5, 90) + "; purse " + dice.of(10, 200));
    }

    private void tellPlaces() {
        for (int i = dice.below(8); i > 0; i--) {
            int a = dice.below(6), b = (a + dice.of(1, 5)) % 6;
            tell("way " + a + " " + b + " " + dice.below(30));
        }
        if (dice.below(2) == 0) tell("begin " + dice.of(460, 500));
    }

    private void tellCall(int c) {
        int opens = dice.of(470, 520);
        tell("call " + c + " " + dice.of(1, 5) + " " + opens + " " + (opens + dice.below(60)) + " " + dice.below(30) + " "
            + dice.below(30) + " " + dice.below(20));
        int sorts = dice.of(0, 8) * 3 / 6;
        for (int s = 0; s < sorts; s++) tell("sort " + c + " " + dice.of(1, 20) + " " + dice.below(40) + " " + wants());
    }

    private String wants() {
        String all = dice.below(4) == 0 ? "none" : word(2);
        return dice.below(3) == 0 ? all + " or " + word(3) : all;
    }

    private String word(int most) {
        StringBuilder word = new StringBuilder();
        for (int i = dice.of(1, most); i > 0; i--) {
            char letter = (char) ('a' + dice.below(dice.of(4, 8)));
            if (word.indexOf("" + letter) < 0) word.append(letter);
        }
        return word.toString();
    }

    private void due(String what, long got, long want) {
        Check.due(name + what, got, want);
    }

    private void due(String what, long above, long below, Fraction want) {
        due(what, above, want.part(0));
        due(what + " (below)", below, want.part(1));
    }

    private boolean known(int c) {
        return model.calls[c] != null && !model.calls[c].sorts.isEmpty();
    }

    private void askTold() {
        for (int t = 0; t < 8; t++) {
            due("weight", x.thing(t, 0), model.weight[t]);
            due("price", x.thing(t, 1), model.price[t]);
            due("tool", x.thing(t, 2), model.tool[t] ? 1 : 0);
        }
        for (int i = 0; i < 36; i++) due("way", x.way(i / 6, i % 6), model.way[i / 6][i % 6]);
        for (int c = 0; c < 6; c++) {
            Model.Call call = model.calls[c];
            due("sorts", x.call(c, 6), call == null ? CarryUp.UNKNOWN : call.sorts.size());
            for (int s = 0; call != null && s < call.sorts.size(); s++) {
                due("likely", x.sort(c, s, 0), call.sorts.get(s).likely());
                due("minutes", x.sort(c, s, 1), call.sorts.get(s).minutes());
                due("all", x.sort(c, s, 2), call.sorts.get(s).all());
                due("one", x.sort(c, s, 3), call.sorts.get(s).one());
            }
        }
    }

    private void askBag(int bag) {
        due("may", x.may(bag), model.may(bag) ? 1 : 0);
        for (int c = 0; c < 6; c++) {
            if (!known(c)) continue;
            due("chance " + bag, x.chance(bag, c, 0), x.chance(bag, c, 1), model.chance(bag, c));
            for (int s = 0; s < model.calls[c].sorts.size(); s++) {
                due("does " + bag, x.does(bag, c, s), model.left(bag, model.calls[c].sorts.get(s)));
            }
        }
    }

    /** CALLS that are known, in a row of their own, and HOME here and there: 3 CALLS at most, for the Model goes through all. */
    private int[] row() {
        int[] row = new int[dice.of(1, 6)];
        int used = 0;
        for (int i = 0; i < row.length; i++) {
            int c = dice.below(6);
            boolean fits = known(c) && (used >> c & 1) == 0 && Integer.bitCount(used) < 3;
            row[i] = fits ? c : 6;
            if (fits) used |= 1 << c;
        }
        return row;
    }

    private void askRow() {
        int[] row = row();
        int packed = Model.packed(row), n = row.length;
        for (int i = 0; i < 3; i++) {
            int bag = dice.below(256);
            String what = Integer.toHexString(packed) + " of " + n + " with " + bag;
            due("mean " + what, x.mean(bag, packed, n, 0), x.mean(bag, packed, n, 1), model.mean(bag, row));
            due("all " + what, x.all(bag, packed, n, 0), x.all(bag, packed, n, 1), model.all(bag, row));
            due("end " + what, x.end(bag, packed, n), model.end(bag, row));
            int seed = dice.below(65536);
            for (int k = 0; k < 4; k++) due("run " + what, x.run(seed, bag, packed, n, k), model.run(seed, bag, row, k));
        }
        String what = Integer.toHexString(packed) + " of " + n;
        due("best " + what, x.best(packed, n), model.best(row));
        int b = dice.of(1, 99), a = dice.of(0, b);
        due("sure " + what, x.sure(packed, n, a, b), model.sure(row, a, b));
        for (int c : row) {
            if (c < 6 && dice.below(3) == 0) due("know " + what, x.know(packed, n, c, 0), x.know(packed, n, c, 1), model.know(row, c));
        }
    }

    private void askBoth() {
        int n = dice.below(8) == 0 ? 3 : dice.of(1, 2);
        int[] both = model.both(n);
        due("both row", x.both(n, 0), both == null ? CarryUp.NONE : both[0]);
        due("both bag", x.both(n, 1), both == null ? CarryUp.NONE : both[1]);
    }

    private void askNow() {
        int set = 0;
        for (int c = 0; c < 6; c++) {
            if (known(c) && Integer.bitCount(set) < 4) set |= dice.below(4) > 0 ? 1 << c : 0;
        }
        int place = dice.below(6), minute = dice.of(440, 540), bag = dice.below(256);
        due("value", x.value(place, minute, bag, set, 0), x.value(place, minute, bag, set, 1), model.value(place, minute, bag, set));
        due("next", x.next(place, minute, bag, set), model.next(place, minute, bag, set));
    }

    private void askThings() {
        for (int t = 0; t < 8; t++) {
            int other = (t + dice.of(1, 7)) % 8;
            due("stands " + t + " for " + other, x.stands(t, other), model.stands(t, other) ? 1 : 0);
        }
        due("idle", x.idle(), model.idle());
    }

    private void askBook() {
        int visits = 0;
        for (int i = 0; i < 16; i++) {
            int c = dice.below(6);
            if (!known(c)) continue;
            int s = dice.below(model.calls[c].sorts.size()), bag = dice.below(256) & dice.below(256);
            visits++;
            due("visit", x.visit(c, s, bag), visits);
            model.visit(c, s, bag);
        }
        if (dice.below(3) == 0) tellCall(dice.below(6));
        for (int i = 0; i < 4; i++) {
            int set = dice.below(256);
            due("saved " + set, x.saved(set), model.saved(set));
        }
        for (int k = 1; k <= 3; k++) due("most " + k, x.most(k), model.most(k));
        due("box", x.box(0), model.box());
        due("box for", x.box(1), model.doneBy(model.box()));
        due("visits", x.count(2), visits);
    }
}
