/** Promises 13, 14, 15, 18, 19: mean, all, end, know, both. */
public final class RowTest {
    private static final String HALVES = "thing a 20 0 part;thing b 30 0 part;call 0 1 500 600 30 10 5;sort 0 1 20 a;sort 0 1 40 b";

    public static void main(String[] args) {
        oneCall();
        hours();
        partsAreUsedUp();
        homeFillsAnew();
        toolsStay();
        manyCalls();
        fractions();
        know();
        knowOfTwo();
        both();
        bothOfEquals();
        refusedMeans();
        refusedRows();
        refusedKnow();
        Check.end();
    }

    private static void mean(String what, CarryUp x, int bag, int row, int n, long above, long below) {
        Check.due("mean of " + what, x.mean(bag, row, n, 0), above);
        Check.due("mean below of " + what, x.mean(bag, row, n, 1), below);
    }

    private static void all(String what, CarryUp x, int bag, int row, int n, long above, long below) {
        Check.due("all of " + what, x.all(bag, row, n, 0), above);
        Check.due("all below of " + what, x.all(bag, row, n, 1), below);
    }

    private static void oneCall() {
        CarryUp x = Check.told(HALVES);
        mean("nothing", x, 0, 0, 1, -10, 1);
        mean("a", x, 1, 0, 1, 10, 1);
        mean("a bag that may not be", x, 3, 0, 1, 30, 1);
        all("nothing", x, 0, 0, 1, 0, 1);
        all("a", x, 1, 0, 1, 1, 2);
        all("a, b", x, 3, 0, 1, 1, 1);
        Check.due("end of nothing", x.end(0, 0, 1), 505);
        Check.due("end of a", x.end(1, 0, 1), 520);
        Check.due("end of b", x.end(2, 0, 1), 540);
        Check.due("end at home", x.end(2, 0x60, 2), 550);
        Check.due("home from home takes no time", x.end(2, 0x66, 2), 480);
        mean("home alone", x, 255, 0x66, 2, 0, 1);
        all("home alone", x, 255, 0x66, 2, 1, 1);
    }

    private static void hours() {
        CarryUp x = Check.told(HALVES, "begin 590");
        mean("there as it shuts", x, 3, 0, 1, 30, 1);
        Check.due("end as it shuts", x.end(3, 0, 1), 640);
        Check.tell(x, "begin 591");
        mean("late", x, 3, 0, 1, -10, 1);
        all("late", x, 3, 0, 1, 0, 1);
        Check.due("late takes no time more", x.end(3, 0, 1), 601);
        Check.tell(x, "begin 489");
        Check.due("he waits", x.end(1, 0, 1), 520);
        Check.tell(x, "begin 491");
        Check.due("he does not wait", x.end(1, 0, 1), 521);
        Check.tell(x, "begin 1439;call 1 2 1439 1439 7 8 9;sort 1 1 200 none;way 0 2 0");
        mean("the last minute", x, 0, 1, 1, 7, 1);
        Check.due("beyond midnight", x.end(0, 0x061, 3), 1649);
        Check.due("late, then home", x.end(0, 0x60, 2), 1459);
        Check.tell(x, "begin 0");
        Check.due("home at midnight", x.end(0, 6, 1), 0);
    }

    private static void partsAreUsedUp() {
        CarryUp x = Check.told("thing b 1 0 tool;call 0 1 0 1439 10 4 5;sort 0 1 1 a;call 1 2 0 1439 20 6 5;sort 1 1 1 ab;sort 1 1 1 b");
        mean("a is gone", x, 3, 0x10, 2, 17, 1);
        all("a is gone", x, 3, 0x10, 2, 1, 2);
        mean("the other way round", x, 3, 0x01, 2, 23, 1);
        mean("home between", x, 3, 0x160, 3, 30, 1);
        all("home between", x, 3, 0x160, 3, 1, 1);
        mean("home behind", x, 3, 0x610, 3, 17, 1);
    }

    private static void homeFillsAnew() {
        CarryUp x = Check.told("call 0 1 0 1439 10 4 5;sort 0 1 1 a;call 1 1 0 1439 10 4 5;sort 1 1 1 a;call 2 1 0 1439 10 4 5;sort 2 1 1 a");
        mean("once", x, 1, 0x210, 3, 2, 1);
        mean("twice", x, 1, 0x2160, 4, 16, 1);
        mean("thrice", x, 1, 0x26160, 5, 30, 1);
        mean("only with what it was told", x, 2, 0x26160, 5, -12, 1);
        Check.due("with the way there and back", x.end(1, 0x26160, 5), 480 + 50 + 3);
    }

    private static void toolsStay() {
        CarryUp x = Check.told("thing a 1 0 tool;call 0 1 0 1439 10 4 5;sort 0 1 1 a;call 1 1 0 1439 10 4 5;sort 1 1 1 none or ab");
        mean("a tool", x, 1, 0x10, 2, 20, 1);
        mean("a tool that is the least of one", x, 3, 0x01, 2, 20, 1);
        Check.tell(x, "thing a 1 0 part");
        mean("a part", x, 1, 0x10, 2, 6, 1);
    }

    private static void manyCalls() {
        CarryUp x = new CarryUp();
        for (int c = 0; c < 6; c++) {
            Check.tell(x, "call " + c + " 1 0 1439 99 99 0;sort " + c + " 20 0 a;sort " + c + " 20 0 b;sort " + c + " 20 0 c;sort " + c + " 19 0 none");
        }
        Check.tell(x, "thing a 1 0 tool;thing b 1 0 tool;thing c 1 0 tool");
        mean("six calls, one tool", x, 1, 0x543210, 6, -594, 79);
        all("six calls, one tool", x, 1, 0x543210, 6, 39L * 39 * 39 * 39 * 39 * 39, 79L * 79 * 79 * 79 * 79 * 79);
        mean("six calls, all tools", x, 7, 0x012345, 6, 594, 1);
        mean("six calls, nothing", x, 0, 0x102345, 6, 594 * 19 - 594 * 60, 79);
    }

    private static void fractions() {
        CarryUp x = Check.told("call 0 1 0 1439 5 1 0;sort 0 2 0 a;sort 0 1 0 none or b", "call 1 1 0 1439 7 2 0;sort 1 3 0 a;sort 1 2 0 b");
        // call 0: 2 of 3 with a (a is gone: then 0 of 5), else not done (a is left: 3 of 5)
        mean("a, 0 then 1", x, 1, 0x10, 2, 14, 5);
        all("a, 0 then 1", x, 1, 0x10, 2, 0, 1);
        // 2 of 3: a is gone, 2 of 5; 1 of 3: b is gone, 3 of 5
        all("a, b, 0 then 1", x, 3, 0x10, 2, 7, 15);
        mean("a, b, 0 then 1", x, 3, 0x10, 2, 36, 5);
    }

    private static void know() {
        CarryUp x = Check.told(HALVES);
        // a for a, b for b: 30; a alone: 10
        Check.due("know", x.know(0, 1, 0, 0), 20);
        Check.due("know below", x.know(0, 1, 0, 1), 1);
        Check.tell(x, "load 50");
        Check.due("nothing new", x.know(0, 1, 0, 0), 0);
        Check.due("nothing new, below", x.know(0, 1, 0, 1), 1);
        Check.tell(x, "load 19");
        Check.due("nothing to be done", x.know(0, 1, 0, 0), 0);
        Check.tell(x, "load 40;sort 0 1 9 none or ab");
        // a: 30, b: 30, one of both: 30, so 30; without: a does for two of three: 50 of 3
        Check.due("three sorts", x.know(0, 1, 0, 0), 40);
        Check.due("three sorts, below", x.know(0, 1, 0, 1), 3);
    }

    private static void knowOfTwo() {
        CarryUp x = Check.told("thing a 1 0 part;thing b 1 0 part;thing c 1 0 part;load 2;call 0 1 0 1439 6 0 0;sort 0 1 0 a;sort 0 2 0 b",
            "call 1 1 0 1439 9 0 0;sort 1 1 0 c;sort 1 1 0 none");
        // best: b, c: 4 and 9; known: 6 and 9; so 2
        Check.due("the first of two", x.know(0x10, 2, 0, 0), 2);
        // c known: b, c: 4 and 9; none known: a, b: 6 and 9; so 14 less 13
        Check.due("the second of two", x.know(0x10, 2, 1, 0), 1);
        Check.tell(x, "call 0 1 0 1439 6 0 0;sort 0 1 0 a;sort 0 6 0 b");
        // best: b, c: 36 of 7 and 9; 6 of 7 more if the first is known
        Check.due("not in a row of one", x.know(0x01, 1, 0, 0), CarryUp.LEAST + 2);
        Check.due("a and b do for all of call 0", x.know(0x00, 1, 0, 0), 0);
        Check.due("by likely", x.know(0x601, 3, 0, 0), 6);
        Check.due("by likely", x.know(0x601, 3, 0, 1), 7);
        Check.due("known for once only", x.mean(6, 0x01, 2, 1), 7);
        Check.tell(x, "call 5 1 0 1439 6 0 0;sort 5 1 0 abc;sort 5 1 0 none;call 4 1 0 0 9 9 9;sort 4 1 9 none");
        Check.due("the last call: it can not be done or needs nothing", x.know(5, 1, 5, 0), 0);
        Check.tell(x, "load 1;call 5 1 0 1439 6 0 0;sort 5 1 0 a;sort 5 2 0 b");
        Check.due("the last call", x.know(0x56, 2, 5, 0), 2);
        Check.due("a call to which he is late", x.know(0x45, 2, 4, 0), 0);
    }

    private static void both() {
        CarryUp x = new CarryUp();
        Check.due("no call", x.both(1, 0), CarryUp.NONE);
        Check.tell(x, "call 2 1 0 1439 9 0 0;sort 2 1 0 b;call 4 1 0 495 9 0 0;sort 4 1 0 c;sort 4 1 0 d;call 5 1 0 1439 50 0 0");
        Check.due("a call without a sort is none", x.both(3, 0), CarryUp.NONE);
        Check.due("no bag either", x.both(3, 1), CarryUp.NONE);
        Check.due("one", x.both(1, 0), 2);
        Check.due("its bag", x.both(1, 1), 2);
        Check.due("two", x.both(2, 0), 0x42);
        Check.due("their bag", x.both(2, 1), 14);
        Check.tell(x, "call 2 1 0 1439 9 0 0;sort 2 1 6 b");
        Check.due("the one that shuts first", x.both(2, 0), 0x24);
        Check.tell(x, "call 4 1 0 495 9 0 0;sort 4 2 0 a;sort 4 1 0 h;thing h 40 0 part");
        Check.due("of both at their greatest", x.both(2, 1), 3);
        Check.tell(x, "call 5 3 0 1439 50 0 0;sort 5 1 0 abh");
        Check.due("three", x.both(3, 0), 0x524);
        Check.due("three's bag", x.both(3, 1), 3);
    }

    private static void bothOfEquals() {
        CarryUp x = new CarryUp();
        for (int c = 5; c >= 0; c--) Check.tell(x, "call " + c + " 1 0 1439 5 5 0;sort " + c + " " + (c + 1) + " 0 none or gh");
        Check.due("the first row of one", x.both(1, 0), 0);
        Check.due("the least bag of one", x.both(1, 1), 64);
        Check.due("the first row of two, by calls", x.both(2, 0), 0x10);
        Check.due("the least bag of two", x.both(2, 1), 192);
        Check.due("the first row of three, by calls", x.both(3, 0), 0x210);
        Check.tell(x, "call 0 1 0 1439 4 5 0;sort 0 1 0 none or gh");
        // only two of three can be done, and call 0 is worth less now
        Check.due("the first row of three with call 0 behind", x.both(3, 0), 0x021);
        Check.tell(x, "load 0");
        Check.due("nothing in the bag", x.both(2, 1), 0);
        Check.due("all cost the same", x.both(2, 0), 0x10);
        Check.due("n 0", x.both(0, 0), CarryUp.OUTSIDE);
        Check.due("n 4", x.both(4, 0), CarryUp.OUTSIDE);
        Check.due("what -1", x.both(1, -1), CarryUp.OUTSIDE);
        Check.due("what 2", x.both(1, 2), CarryUp.OUTSIDE);
        Check.due("OUTSIDE ahead of NONE", new CarryUp().both(3, 2), CarryUp.OUTSIDE);
    }

    private static void refusedMeans() {
        long unknown = CarryUp.LEAST + 2, outside = CarryUp.LEAST + 3;
        CarryUp x = Check.told(HALVES, "call 1 1 0 0 0 0 0");
        Check.due("n ahead of a call", x.mean(0, 7, 0, 0), outside);
        Check.due("n 7", x.mean(0, 7, 7, 0), outside);
        Check.due("n -1", x.mean(0, 0, -1, 0), outside);
        Check.due("a call without a sort, ahead of the bag", x.mean(256, 1, 1, 2), unknown);
        Check.due("no call", x.mean(0, 2, 1, 0), unknown);
        Check.due("no call 7", x.mean(0, 7, 1, 0), unknown);
        Check.due("no call 15", x.mean(0, -1, 1, 0), unknown);
        Check.due("an unknown one behind a twice", x.mean(0, 0x200, 3, 0), unknown);
        Check.due("twice", x.mean(0, 0x060, 3, 0), outside);
        Check.due("bag -1", x.mean(-1, 0, 1, 0), outside);
        Check.due("bag 256", x.mean(256, 0, 1, 0), outside);
        Check.due("part -1", x.mean(0, 0, 1, -1), outside);
        Check.due("part 2", x.mean(0, 0, 1, 2), outside);
        Check.due("what is beyond n", x.mean(0, 0x7FFFFFF0, 1, 1), 1);
        Check.due("what is beyond n, below 0", x.mean(0, 0x80000000, 1, 1), 1);
    }

    private static void refusedRows() {
        CarryUp x = Check.told(HALVES);
        Check.due("all: n", x.all(0, 7, 7, 0), CarryUp.OUTSIDE);
        Check.due("all: no call", x.all(256, 5, 1, 0), CarryUp.UNKNOWN);
        Check.due("all: twice", x.all(0, 0, 2, 0), CarryUp.OUTSIDE);
        Check.due("all: bag", x.all(256, 0, 1, 0), CarryUp.OUTSIDE);
        Check.due("all: part", x.all(0, 0, 1, 2), CarryUp.OUTSIDE);
        Check.due("end: n", x.end(0, 7, 0), CarryUp.OUTSIDE);
        Check.due("end: no call", x.end(-1, 5, 1), CarryUp.UNKNOWN);
        Check.due("end: twice", x.end(0, 0, 2), CarryUp.OUTSIDE);
        Check.due("end: bag", x.end(-1, 0, 1), CarryUp.OUTSIDE);
    }

    private static void refusedKnow() {
        long unknown = CarryUp.LEAST + 2, outside = CarryUp.LEAST + 3;
        CarryUp x = Check.told(HALVES, "call 1 1 0 0 0 0 0;sort 1 1 0 none;call 2 1 0 0 0 0 0");
        Check.due("n ahead of all", x.know(7, 7, 9, 9), outside);
        Check.due("a call of the row", x.know(2, 1, 2, 0), unknown);
        Check.due("not in the row", x.know(0, 1, 1, 0), unknown);
        Check.due("not in the row, ahead of twice", x.know(0, 2, 1, 9), unknown);
        Check.due("home is no call", x.know(0x60, 2, 6, 0), unknown);
        Check.due("call -1", x.know(0, 1, -1, 0), unknown);
        Check.due("call 16", x.know(0, 1, 16, 0), unknown);
        Check.due("twice", x.know(0, 2, 0, 0), outside);
        Check.due("part -1", x.know(0, 1, 0, -1), outside);
        Check.due("part 2", x.know(0, 1, 0, 2), outside);
    }
}
