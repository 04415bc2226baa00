/** All promises: whatever is asked, nothing is thrown, and what is refused, or only asked, changes nothing. */
public final class RefusedTest {
    private static final int DAYS = 60, CALLS = 250;
    private static final String[] TEXTS = {
        "thing a 5 3 tool;thing b 9 9 part;load 20;purse 40;begin 300;way 1 0 33;way 4 2 0",
        "call 0 1 400 500 30 9 5;sort 0 3 10 a;sort 0 2 20 b or cd;sort 0 1 30 none or ah",
        "call 1 2 0 900 20 8 50;sort 1 20 200 none;sort 1 1 0 ef",
        "call 2 3 600 600 10 0 0;sort 2 5 5 gh or gh", "call 3 5 1439 1439 99 99 99;sort 3 1 1 none",
        "call 4 4 0 0 1 1 1", "call 5 1 0 1439 5 5 5;sort 5 7 7 none or bde", "call 0 1 0 600 1 1 1;load 0;begin 1439",
        "load", "thing a 5 3 tool;sort 0 1", "call 0 1 5 4", "\u0000"};

    public static void main(String[] args) {
        for (int day = 0; day < DAYS; day++) askAnything(new CarryUp(), new Dice(day));
        Check.end();
    }

    private static void askAnything(CarryUp x, Dice dice) {
        long state = state(x);
        for (int i = 0; i < CALLS; i++) {
            int method = dice.below(27);
            long answer = ask(x, dice, method);
            long now = state(x);
            boolean changes = method < 3 || method == 17;
            boolean refused = answer < 0 && answer >= CarryUp.FULL;
            if (!changes || refused) Check.due("state behind method " + method, now, state);
            state = now;
        }
    }

    private static long ask(CarryUp x, Dice d, int method) {
        switch (method) {
            case 0: {
                if (d.below(4) == 0) return x.write(d.any(), d.any());
                if (d.below(2) == 0) x.erase();
                Check.write(x, TEXTS[d.below(TEXTS.length)]);
                return 0;
            }
            case 1: return x.erase();
            case 2: return x.day();
            case 3: return x.fault();
            case 4: return x.thing(d.any(), d.any());
            case 5: return x.call(d.any(), d.any());
            case 6: return x.sort(d.any(), d.any(), d.any());
            case 7: return x.way(d.any(), d.any());
            case 8: return x.may(d.any());
            case 9: return x.does(d.any(), d.any(), d.any());
            case 10: return x.chance(d.any(), d.any(), d.any());
            case 11: return x.mean(d.any(), d.any(), d.of(-1, 8), d.any());
            case 12: return x.all(d.any(), d.any(), d.of(-1, 8), d.any());
            case 13: return x.end(d.any(), d.any(), d.of(-1, 8));
            case 14: return x.best(d.any(), d.of(-1, 4));
            case 15: return x.sure(d.any(), d.of(-1, 4), d.any(), d.any());
            case 16: return x.know(d.any(), d.of(-1, 4), d.any(), d.any());
            case 17: return x.visit(d.any(), d.any(), d.any());
            case 18: return x.both(d.of(-1, 2), d.any());
            case 19: return x.value(d.any(), d.any(), d.any(), d.any(), d.any());
            case 20: return x.next(d.any(), d.any(), d.any(), d.any());
            case 21: return x.stands(d.any(), d.any());
            case 22: return x.saved(d.any());
            case 23: return x.most(d.any());
            case 24: return x.box(d.any());
            case 25: return x.run(d.any(), d.any(), d.any(), d.of(-1, 8), d.any());
            default: return x.count(d.any()) + x.idle();
        }
    }

    /** One number made of all that can be asked of the day, the text and the book. */
    private static long state(CarryUp x) {
        long state = x.idle();
        for (int what = 0; what < 6; what++) state = state * 31 + x.count(what);
        for (int i = 0; i < 24; i++) state = state * 31 + x.thing(i / 3, i % 3);
        for (int i = 0; i < 36; i++) state = state * 31 + x.way(i / 6, i % 6);
        for (int i = 0; i < 42; i++) state = state * 31 + x.call(i / 7, i % 7);
        for (int i = 0; i < 96; i++) state = state * 31 + x.sort(i / 16, i / 4 % 4, i % 4);
        for (int set = 0; set < 256; set += 5) state = state * 31 + x.saved(set);
        return state * 31 + x.fault();
    }
}
