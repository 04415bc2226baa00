/**
 * Terms, and promises 1, 5 to 10 and 29: what an object is at first, what MAY BE at the bounds of LOAD and PURSE,
 * how many SORTS a CALL has, what is told anew and what of it stays.
 */
public final class DayEdgesTest {
    public static void main(String[] args) {
        atFirst();
        loadAtFirst();
        purseAtFirst();
        loadAtItsMost();
        loadAtItsLeast();
        purseAtItsMost();
        purseAtItsLeast();
        bothBounds();
        theWholeBagAndTheEmptyOne();
        everyThingAlone();
        waysToItself();
        fourSortsAtMost();
        sortsOfEachCall();
        sortsAheadOfTheirCall();
        aCallToldAnew();
        linesInTheirOrder();
        whatEarlierTextsTold();
        allTold();
        Check.end();
    }

    private static void atFirst() {
        CarryUp x = new CarryUp();
        int[] counts = {0, 0, 0, 40, 999, 480};
        for (int what = 0; what < 6; what++) Check.due("count " + what + " at first", x.count(what), counts[what]);
        for (int t = 0; t < 8; t++) {
            Check.due("weight at first", x.thing(t, 0), 1);
            Check.due("price at first", x.thing(t, 1), 0);
            Check.due("a part at first", x.thing(t, 2), 0);
        }
        for (int a = 0; a < 6; a++) {
            for (int what = 0; what <= 6; what++) Check.due("no call at first", x.call(a, what), CarryUp.UNKNOWN);
            for (int b = 0; b < 6; b++) Check.due("way at first", x.way(a, b), a == b ? 0 : 10);
        }
        for (int bag = 0; bag < 256; bag++) Check.due("all bags may be at first", x.may(bag), 1);
        Check.due("text at first", x.fault(), 0);
        Check.due("nothing wanted at first", x.idle(), 255);
        Check.due("no text, no day", x.day(), CarryUp.NOT);
    }

    private static void loadAtFirst() {
        CarryUp x = Check.told("thing a 40 0 part;thing b 41 0 part;thing c 39 0 tool");
        Check.due("40 of 40", x.may(1), 1);
        Check.due("41 of 40", x.may(2), 0);
        Check.due("39 of 40", x.may(4), 1);
        Check.due("39 and 1 of 40", x.may(4 + 8), 1);
        Check.due("39 and 2 of 40", x.may(4 + 8 + 16), 0);
    }

    private static void purseAtFirst() {
        CarryUp x = new CarryUp();
        for (char c = 'a'; c <= 'h'; c++) Check.tell(x, "thing " + c + " 1 99 part");
        Check.due("all that can be asked for is in the first purse", x.may(255), 1);
    }

    private static void loadAtItsMost() {
        CarryUp x = Check.told("thing a 99 0 part;thing b 99 0 part;thing c 99 0 part;thing d 99 0 tool;thing e 3 0 part;thing f 4 0 part;thing g 5 0 part",
            "load 400");
        Check.due("399 of 400", x.may(15 + 16), 1);
        Check.due("400 of 400", x.may(15 + 32), 1);
        Check.due("401 of 400", x.may(15 + 64), 0);
        Check.due("400 of 400, the last thing", x.may(15 + 16 + 128), 1);
        Check.due("401 of 400, the last thing", x.may(15 + 32 + 128), 0);
        Check.tell(x, "load 399");
        Check.due("399 of 399", x.may(15 + 16), 1);
        Check.due("400 of 399", x.may(15 + 32), 0);
        for (char c = 'e'; c <= 'h'; c++) Check.tell(x, "thing " + c + " 99 99 part");
        Check.tell(x, "load 400");
        Check.due("792 of 400", x.may(255), 0);
    }

    private static void loadAtItsLeast() {
        CarryUp x = Check.told("load 0");
        for (int bag = 0; bag < 256; bag++) Check.due("load 0, bag " + bag, x.may(bag), bag == 0 ? 1 : 0);
        Check.tell(x, "load 1");
        for (int bag = 0; bag < 256; bag++) Check.due("load 1, bag " + bag, x.may(bag), Integer.bitCount(bag) < 2 ? 1 : 0);
        Check.tell(x, "load 7");
        for (int bag = 0; bag < 256; bag++) Check.due("load 7, bag " + bag, x.may(bag), bag == 255 ? 0 : 1);
    }

    private static void purseAtItsMost() {
        CarryUp x = new CarryUp();
        for (char c = 'a'; c <= 'h'; c++) Check.tell(x, "thing " + c + " 1 99 part");
        Check.tell(x, "purse 792");
        Check.due("792 of 792", x.may(255), 1);
        Check.tell(x, "purse 791");
        Check.due("792 of 791", x.may(255), 0);
        for (int t = 0; t < 8; t++) Check.due("693 of 791", x.may(255 - (1 << t)), 1);
        Check.tell(x, "purse 999");
        Check.due("792 of 999", x.may(255), 1);
    }

    private static void purseAtItsLeast() {
        CarryUp x = Check.told("purse 0;thing a 1 1 part;thing h 1 1 tool");
        for (int bag = 0; bag < 256; bag++) Check.due("purse 0, bag " + bag, x.may(bag), (bag & 129) == 0 ? 1 : 0);
        Check.tell(x, "purse 1");
        for (int bag = 0; bag < 256; bag++) Check.due("purse 1, bag " + bag, x.may(bag), (bag & 129) == 129 ? 0 : 1);
    }

    private static void bothBounds() {
        CarryUp x = Check.told("thing a 5 6 part;thing b 5 6 part;load 10;purse 12");
        Check.due("both bounds met", x.may(3), 1);
        Check.tell(x, "load 9");
        Check.due("too heavy, not too dear", x.may(3), 0);
        Check.tell(x, "load 10;purse 11");
        Check.due("too dear, not too heavy", x.may(3), 0);
        Check.tell(x, "load 9");
        Check.due("both", x.may(3), 0);
        Check.due("one of them", x.may(1) + x.may(2), 2);
    }

    private static void theWholeBagAndTheEmptyOne() {
        CarryUp x = Check.told("load 0;purse 0");
        Check.due("the empty bag always may be", x.may(0), 1);
        Check.refused(x, "bag -1", () -> x.may(-1), CarryUp.OUTSIDE);
        Check.refused(x, "bag 256", () -> x.may(256), CarryUp.OUTSIDE);
        Check.tell(x, "load 8");
        Check.due("all things", x.may(255), 1);
    }

    private static void everyThingAlone() {
        CarryUp x = new CarryUp();
        for (int t = 0; t < 8; t++) Check.tell(x, "thing " + (char) ('a' + t) + " " + (t + 2) + " " + (t + 1) + " part");
        for (int t = 0; t < 8; t++) {
            Check.tell(x, "purse 999;load " + (t + 2));
            for (int u = 0; u < 8; u++) Check.due("weight of " + u + " and load of " + t, x.may(1 << u), u <= t ? 1 : 0);
            Check.tell(x, "load 400;purse " + (t + 1));
            for (int u = 0; u < 8; u++) Check.due("price of " + u + " and purse of " + t, x.may(1 << u), u <= t ? 1 : 0);
        }
    }

    private static void waysToItself() {
        CarryUp x = Check.told("way 0 1 200;way 2 1 0;way 5 4 1");
        for (int a = 0; a < 6; a++) Check.due("way to itself", x.way(a, a), 0);
        Check.due("the longest", x.way(1, 0), 200);
        Check.due("the shortest", x.way(1, 2), 0);
        Check.due("the last places", x.way(4, 5), 1);
        Check.due("as at first", x.way(3, 5), 10);
    }

    private static void fourSortsAtMost() {
        CarryUp x = Check.told("call 3 1 0 0 0 0 0");
        for (int s = 0; s < 7; s++) {
            Check.due("sorts ahead of number " + s, x.call(3, 6), Math.min(s, 4));
            int none = s;
            if (s < 5) Check.refused(x, "sort " + s, () -> x.sort(3, none, 0), CarryUp.UNKNOWN);
            Check.tell(x, "sort 3 " + (s + 1) + " " + (s + 11) + " " + (char) ('a' + s) + " or " + (char) ('b' + s));
        }
        for (int s = 0; s < 4; s++) {
            Check.due("likely as told", x.sort(3, s, 0), s + 1);
            Check.due("minutes as told", x.sort(3, s, 1), s + 11);
            Check.due("all as told", x.sort(3, s, 2), 1 << s);
            Check.due("one as told", x.sort(3, s, 3), 2 << s);
        }
        Check.refused(x, "a fifth one", () -> x.sort(3, 4, 0), CarryUp.UNKNOWN);
        Check.due("the fifth one wants nothing", x.idle(), 255 - 31);
        Check.due("chance without the fifth one", x.chance(31, 3, 0), 1);
        Check.due("chance without the fifth one, below", x.chance(3, 3, 1), 10);
    }

    private static void sortsOfEachCall() {
        CarryUp x = new CarryUp();
        for (int c = 0; c < 6; c++) Check.tell(x, "call " + c + " 1 0 0 0 0 0");
        for (int s = 0; s < 4; s++) {
            for (int c = 0; c < 6; c++) Check.tell(x, "sort " + c + " " + (c * 3 + s + 1) + " " + (c * 4 + s) + " none");
        }
        for (int i = 0; i < 24; i++) {
            Check.due("likely", x.sort(i / 4, i % 4, 0), i / 4 * 3 + i % 4 + 1);
            Check.due("minutes", x.sort(i / 4, i % 4, 1), i);
        }
        Check.due("all calls", x.count(0), 6);
    }

    private static void sortsAheadOfTheirCall() {
        CarryUp x = Check.told("sort 0 1 1 a;call 0 1 0 0 0 0 0;sort 1 2 2 b;sort 0 3 3 c");
        Check.due("one sort", x.call(0, 6), 1);
        Check.due("the one behind the call", x.sort(0, 0, 2), 4);
        Check.due("no call by a sort", x.call(1, 6), CarryUp.UNKNOWN);
        Check.due("one call", x.count(0), 1);
        Check.tell(x, "call 1 1 0 0 0 0 0");
        Check.due("what was passed over does not come later", x.call(1, 6), 0);
    }

    private static void aCallToldAnew() {
        CarryUp x = Check.told("call 0 5 1439 1439 99 99 99;sort 0 1 1 a;sort 0 2 2 b;sort 0 3 3 c;sort 0 4 4 d;call 1 1 0 0 0 0 0;sort 1 1 1 h");
        Check.tell(x, "call 0 1 0 0 0 0 0");
        for (int what = 0; what <= 6; what++) Check.due("told anew " + what, x.call(0, what), what == 0 ? 1 : 0);
        for (int s = 0; s < 4; s++) Check.due("no sort " + s, x.sort(0, s, 0), CarryUp.UNKNOWN);
        Check.refused(x, "chance without sorts", () -> x.chance(0, 0, 0), CarryUp.UNKNOWN);
        Check.refused(x, "row without sorts", () -> x.best(0, 1), CarryUp.UNKNOWN);
        Check.due("it is still told", x.count(0), 2);
        Check.due("the other call's sorts stay", x.call(1, 6), 1);
        Check.due("only h is wanted", x.idle(), 127);
        Check.tell(x, "sort 0 20 9 e;sort 0 1 1 f;sort 0 1 1 g;sort 0 1 1 h;sort 0 1 1 a");
        Check.due("four sorts again", x.call(0, 6), 4);
        Check.due("the first is the new one", x.sort(0, 0, 0), 20);
        Check.due("likely of the new ones alone", x.chance(16, 0, 1), 23);
    }

    private static void linesInTheirOrder() {
        CarryUp x = Check.told("load 1;load 2;thing a 1 1 tool;thing a 2 2 part;way 0 1 1;way 1 0 2;call 0 1 0 0 1 1 1;sort 0 1 1 a;call 0 2 0 0 2 2 2;sort 0 2 2 b");
        Check.due("load", x.count(3), 2);
        Check.due("weight", x.thing(0, 0), 2);
        Check.due("a part", x.thing(0, 2), 0);
        Check.due("way", x.way(0, 1), 2);
        Check.due("place", x.call(0, 0), 2);
        Check.due("one sort", x.call(0, 6), 1);
        Check.due("the last one", x.sort(0, 0, 2), 2);
    }

    private static void whatEarlierTextsTold() {
        CarryUp x = Check.told("thing a 7 8 tool;load 9;purse 10;begin 11;way 0 1 12;call 0 1 0 0 1 1 1;sort 0 1 1 a");
        String told = State.of(x);
        Check.tell(x, "sort 5 1 1 a");
        Check.yes("a line that is passed over changes nothing", State.of(x).equals(told));
        Check.tell(x, "load 9");
        Check.yes("a line that tells the same changes nothing", State.of(x).equals(told));
        Check.tell(x, "load 8");
        Check.due("load is told anew", x.count(3), 8);
        Check.due("purse stays", x.count(4), 10);
        Check.due("begin stays", x.count(5), 11);
        Check.due("way stays", x.way(1, 0), 12);
        Check.due("thing stays", x.thing(0, 1), 8);
        Check.due("call stays", x.call(0, 6), 1);
        Check.write(x, "load 7;purse 6;begin 1440");
        Check.refused(x, "day with a fault", x::day, CarryUp.NOT);
    }

    private static void allTold() {
        CarryUp x = new CarryUp();
        for (int c = 0; c < 6; c++) {
            Check.due("calls told", x.count(0), c);
            Check.tell(x, "call " + c + " 1 0 0 0 0 0");
        }
        Check.due("all calls told", x.count(0), 6);
        Check.tell(x, "call 0 1 0 0 0 0 0;call 5 1 0 0 0 0 0");
        Check.due("a call told anew is told once", x.count(0), 6);
        for (int i = 0; i < 200; i++) {
            Check.due("bytes", x.count(1), i);
            x.write(' ', 1);
        }
        Check.due("all bytes", x.count(1), 200);
        Check.refused(x, "count -1", () -> x.count(-1), CarryUp.OUTSIDE);
        Check.refused(x, "count 6", () -> x.count(6), CarryUp.OUTSIDE);
    }
}
