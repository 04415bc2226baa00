import java.util.function.LongSupplier;

/**
 * All promises: each refused call, by a second telling of what is refused and in which order: every mixture of arguments
 * that are allowed and that are not, the last ones and the first ones of each, on days with and without CALLS. Behind a
 * refused call nothing has changed; a call that is not to be refused is not.
 */
public final class OrderTest {
    private static final int FINE = Refusals.FINE, LEAST = Integer.MIN_VALUE, MOST = Integer.MAX_VALUE;

    private static final int[] THINGS = {LEAST, -1, 0, 7, 8, 256, MOST};
    private static final int[] PLACES = {LEAST, -1, 0, 5, 6, 36, MOST};
    private static final int[] CALLS = {LEAST, -1, 0, 1, 2, 3, 4, 5, 6, 7, 16, MOST};
    private static final int[] SORTS = {LEAST, -1, 0, 1, 2, 3, 4, MOST};
    private static final int[] BAGS = {LEAST, -1, 0, 255, 256, MOST};
    private static final int[] PARTS = {LEAST, -1, 0, 1, 2, MOST};
    private static final int[] WHATS = {LEAST, -1, 0, 1, 2, 3, 4, 5, 6, 7, 8, MOST};
    private static final int[] LENGTHS = {LEAST, -1, 0, 1, 2, 3, 6, 7, MOST};
    private static final int[] ROWS = {0, 1, 0x10, 0x01, 0x60, 0x06, 6, 0x66, 0x666666, 2, 0x20, 3, 0x31, 4, 0x45, 5, 7, 0x71, 15,
        0x101, 0x010, 0x160, 0x300, 0x003, 0x600006, 0x601006, 0x610001, 0x106666, 0x7000061, 0xF1666610, -1, LEAST, MOST};

    private final String name;
    private final CarryUp x;
    private final Refusals refusals;

    private OrderTest(String name, CarryUp x, int... sorts) {
        this.name = name;
        this.x = x;
        refusals = new Refusals(sorts);
    }

    public static void main(String[] args) {
        new OrderTest("a new object", new CarryUp(), -1, -1, -1, -1, -1, -1).askAll();
        new OrderTest("some calls", someCalls(), 2, 1, 0, 4, -1, -1).askAll();
        new OrderTest("all calls", allCalls(), 1, 1, 1, 1, 1, 1).askAll();
        new OrderTest("a full book", fullBook(), 2, 1, 0, 4, -1, -1).askBook();
        aTextWithAFault();
        Check.end();
    }

    private static CarryUp someCalls() {
        return Check.told("thing a 3 2 tool;load 30;begin 470;way 0 1 5;call 0 1 480 500 9 8 7;sort 0 2 5 a;sort 0 3 6 none or bc",
            "call 1 5 490 520 5 4 3;sort 1 1 9 none;call 2 3 0 1439 1 1 1",
            "call 3 2 0 900 9 1 4;sort 3 1 1 h;sort 3 2 2 g;sort 3 3 3 f;sort 3 4 4 e");
    }

    private static CarryUp allCalls() {
        CarryUp x = new CarryUp();
        for (int c = 0; c < 6; c++) Check.tell(x, "call " + c + " 1 0 1439 9 9 9;sort " + c + " 20 1 " + (char) ('a' + c));
        return x;
    }

    private static CarryUp fullBook() {
        CarryUp x = someCalls();
        for (int i = 0; i < 16; i++) x.visit(3, i % 4, 15 << i % 5);
        return x;
    }

    private void askAll() {
        askThings();
        askDay();
        askText();
        askBags();
        askMeans();
        askChoices();
        askKnow();
        askNow();
        askBook();
        askRun();
    }

    private void due(String what, LongSupplier call, int refusal) {
        if (refusal != FINE) Check.refused(x, name + ": " + what, call, refusal);
        else Check.yes(name + ": " + what + " is not refused", call.getAsLong() >= CarryUp.NONE);
    }

    private void dueOfMean(String what, LongSupplier call, int refusal) {
        if (refusal != FINE) Check.refused(x, name + ": " + what, call, CarryUp.LEAST - refusal);
        else Check.yes(name + ": " + what + " is not refused", Math.abs(call.getAsLong()) < 1L << 40);
    }

    // ---- promises 2, 6 to 10, 22, 29

    private void askThings() {
        for (int thing : THINGS) {
            for (int what : WHATS) {
                due("thing " + thing + " " + what, () -> x.thing(thing, what), Refusals.thing(thing, what));
            }
            for (int other : THINGS) {
                due("stands " + thing + " " + other, () -> x.stands(thing, other), Refusals.stands(thing, other));
            }
        }
        due("idle", x::idle, FINE);
    }

    private void askDay() {
        for (int call : CALLS) {
            for (int what : WHATS) {
                due("call " + call + " " + what, () -> x.call(call, what), refusals.call(call, what));
                for (int sort : SORTS) {
                    due("sort " + call + " " + sort + " " + what, () -> x.sort(call, sort, what), refusals.sort(call, sort, what));
                }
            }
        }
        for (int a : PLACES) {
            for (int b : PLACES) due("way " + a + " " + b, () -> x.way(a, b), Refusals.way(a, b));
        }
        for (int bag : BAGS) due("may " + bag, () -> x.may(bag), Refusals.may(bag));
        for (int what : WHATS) due("count " + what, () -> x.count(what), Refusals.count(what));
    }

    private void askText() {
        due("day of nothing", x::day, CarryUp.NOT);
        for (int had : new int[] {0, 1, 191, 192, 193, 199, 200}) {
            for (int n : new int[] {LEAST, -1, 0, 1, 7, 8, 9, 256, MOST}) {
                Check.write(x, " ".repeat(had));
                due("write " + n + " behind " + had, () -> x.write(-1, n), Refusals.write(had, n));
                x.erase();
            }
        }
    }

    // ---- promises 11, 12

    private void askBags() {
        for (int bag : BAGS) {
            for (int call : CALLS) {
                for (int sort : SORTS) {
                    due("does " + bag + " " + call + " " + sort, () -> x.does(bag, call, sort), refusals.does(bag, call, sort));
                }
                for (int part : PARTS) {
                    due("chance " + bag + " " + call + " " + part, () -> x.chance(bag, call, part), refusals.chance(bag, call, part));
                }
            }
        }
    }

    // ---- promises 13 to 19

    private void askMeans() {
        for (int row : ROWS) {
            for (int n : LENGTHS) {
                for (int bag : BAGS) {
                    String what = bag + " " + Integer.toHexString(row) + " " + n;
                    due("end " + what, () -> x.end(bag, row, n), refusals.end(bag, row, n));
                    for (int part : PARTS) {
                        int refusal = refusals.mean(bag, row, n, part);
                        dueOfMean("mean " + what + " " + part, () -> x.mean(bag, row, n, part), refusal);
                        due("all " + what + " " + part, () -> x.all(bag, row, n, part), refusal);
                    }
                }
            }
        }
    }

    private void askChoices() {
        for (int row : ROWS) {
            for (int n : LENGTHS) {
                String what = Integer.toHexString(row) + " " + n;
                due("best " + what, () -> x.best(row, n), refusals.best(row, n));
                for (int b : new int[] {LEAST, -1, 0, 1, 99, 100, MOST}) {
                    for (int a : new int[] {LEAST, -1, 0, 1, 2, 99, 100, MOST}) {
                        due("sure " + what + " " + a + " " + b, () -> x.sure(row, n, a, b), refusals.sure(row, n, a, b));
                    }
                }
            }
        }
        for (int n : LENGTHS) {
            for (int what : WHATS) due("both " + n + " " + what, () -> x.both(n, what), Refusals.both(n, what));
        }
    }

    private void askKnow() {
        for (int row : ROWS) {
            for (int n : LENGTHS) {
                for (int call : CALLS) {
                    for (int part : PARTS) {
                        dueOfMean("know " + Integer.toHexString(row) + " " + n + " " + call + " " + part, () -> x.know(row, n, call, part),
                            refusals.know(row, n, call, part));
                    }
                }
            }
        }
    }

    // ---- promises 20, 21

    private void askNow() {
        for (int set : new int[] {LEAST, -1, 0, 1, 2, 3, 4, 8, 11, 15, 16, 30, 31, 32, 48, 60, 62, 63, 64, 65, MOST}) {
            for (int place : PLACES) {
                for (int minute : new int[] {LEAST, -1, 0, 1439, 1440, MOST}) askNow(place, minute, set);
            }
        }
    }

    private void askNow(int place, int minute, int set) {
        for (int bag : BAGS) {
            String what = place + " " + minute + " " + bag + " " + set;
            due("next " + what, () -> x.next(place, minute, bag, set), refusals.next(place, minute, bag, set));
            for (int part : PARTS) {
                dueOfMean("value " + what + " " + part, () -> x.value(place, minute, bag, set, part),
                    refusals.value(place, minute, bag, set, part));
            }
        }
    }

    // ---- promises 24 to 28

    private void askBook() {
        for (int set : BAGS) due("saved " + set, () -> x.saved(set), Refusals.saved(set));
        for (int k : WHATS) due("most " + k, () -> x.most(k), Refusals.most(k));
        for (int what : WHATS) due("box " + what, () -> x.box(what), Refusals.box(what));
        int visits = x.count(2);
        for (int call : CALLS) {
            for (int sort : SORTS) {
                for (int bag : BAGS) {
                    int refusal = refusals.visit(visits, call, sort, bag);
                    // what is allowed is asked of a full book alone, so that no VISIT is written here
                    if (refusal != FINE) due("visit " + call + " " + sort + " " + bag, () -> x.visit(call, sort, bag), refusal);
                }
            }
        }
    }

    private void askRun() {
        for (int row : ROWS) {
            for (int n : LENGTHS) {
                for (int bag : new int[] {-1, 0, 255, 256}) {
                    for (int seed : new int[] {LEAST, -1, 0, 65535, 65536, MOST}) {
                        for (int what : new int[] {LEAST, -1, 0, 1, 2, 3, 4, MOST}) {
                            due("run " + seed + " " + bag + " " + Integer.toHexString(row) + " " + n + " " + what, () -> x.run(seed, bag, row, n, what),
                                refusals.run(seed, bag, row, n, what));
                        }
                    }
                }
            }
        }
    }

    // ---- promise 5

    private static void aTextWithAFault() {
        CarryUp x = someCalls();
        String text = "thing b 9 9 tool;load 1;purse 1;begin 1;way 0 1 1;call 0 2 1 1 1 1 1;sort 1 1 1 a;call 5 1 0 0 0 0 0;load ";
        Check.write(x, text);
        Check.refused(x, "day that ends too soon", x::day, CarryUp.NOT);
        Check.write(x, "401");
        Check.refused(x, "day with a number out of its bounds", x::day, CarryUp.NOT);
        Check.due("the text is still there", x.fault(), text.length());
        Check.due("all of it", x.erase(), text.length() + 3);
        Check.write(x, text);
        Check.write(x, "400");
        Check.due("day without the fault", x.day(), 9);
        Check.due("done in their order", x.count(3), 400);
    }
}
