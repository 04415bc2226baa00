/** Promises 11, 12, 16, 17: does, chance, best, sure. */
public final class BagTest {
    public static void main(String[] args) {
        does();
        usesTheLeast();
        chance();
        best();
        bestOfEquals();
        sure();
        sureOfEquals();
        refused();
        Check.end();
    }

    private static void does() {
        CarryUp x = Check.told("thing b 1 0 tool;call 0 1 0 1439 9 9 9;sort 0 1 0 none;sort 0 1 0 abc;sort 0 1 0 none or de;sort 0 1 0 a or bf");
        Check.due("wants nothing", x.does(0, 0, 0), 0);
        Check.due("wants nothing, uses nothing", x.does(255, 0, 0), 255);
        Check.due("all there, the tool stays", x.does(15, 0, 1), 10);
        Check.due("one of all is missing", x.does(251, 0, 1), CarryUp.NONE);
        Check.due("one of one", x.does(16, 0, 2), 0);
        Check.due("none of one", x.does(231, 0, 2), CarryUp.NONE);
        Check.due("all and one", x.does(33, 0, 3), 0);
        Check.due("all, none of one", x.does(1, 0, 3), CarryUp.NONE);
        Check.due("one, not all", x.does(34, 0, 3), CarryUp.NONE);
        Check.due("the least of one is a tool: no part of one is used", x.does(35, 0, 3), 34);
    }

    private static void usesTheLeast() {
        CarryUp x = Check.told("call 3 1 0 1439 9 9 9;sort 3 1 0 none or hdb;sort 3 1 0 c or cd;sort 3 1 0 d or cd");
        Check.due("the least of three", x.does(138, 3, 0), 136);
        Check.due("the least of two", x.does(136, 3, 0), 128);
        Check.due("the last", x.does(129, 3, 0), 1);
        Check.due("one is chosen as the bag is ahead of what all uses", x.does(12, 3, 1), 8);
        Check.due("all and one use two", x.does(12, 3, 2), 0);
        Check.due("what all wants is enough for one", x.does(4, 3, 1), 0);
    }

    private static void chance() {
        CarryUp x = Check.told("call 1 1 0 0 0 0 0;sort 1 20 0 a;sort 1 7 0 b;sort 1 3 0 none or ab");
        int[][] due = {{0, 0, 1}, {1, 23, 30}, {2, 1, 3}, {3, 1, 1}, {4, 0, 1}, {255, 1, 1}};
        for (int[] d : due) {
            Check.due("chance of " + d[0], x.chance(d[0], 1, 0), d[1]);
            Check.due("chance below of " + d[0], x.chance(d[0], 1, 1), d[2]);
        }
        Check.due("chance -1", x.chance(-1, 1, 0), CarryUp.OUTSIDE);
        Check.due("chance 256", x.chance(256, 1, 0), CarryUp.OUTSIDE);
        Check.due("part -1", x.chance(0, 1, -1), CarryUp.OUTSIDE);
        Check.due("part 2", x.chance(0, 1, 2), CarryUp.OUTSIDE);
        Check.due("UNKNOWN ahead of OUTSIDE", x.chance(256, 0, 2), CarryUp.UNKNOWN);
    }

    private static void best() {
        // a is in every third, b in two of three; only one of them can be carried
        CarryUp x = Check.told("thing a 20 0 part;thing b 20 0 part;load 39;call 0 1 0 1439 9 9 9;sort 0 1 0 a;sort 0 2 0 b");
        Check.due("the likelier", x.best(0, 1), 2);
        Check.tell(x, "load 40");
        Check.due("both", x.best(0, 1), 3);
        Check.tell(x, "load 19");
        Check.due("none may be", x.best(0, 1), 0);
        Check.tell(x, "load 40;thing b 20 8 part;purse 7");
        Check.due("b is too dear", x.best(0, 1), 1);
        Check.tell(x, "purse 8;call 0 1 0 1439 9 9 99;sort 0 1 0 a;sort 0 2 99 b;call 1 2 0 600 99 99 0;sort 1 1 0 none");
        Check.due("nothing makes him late", x.best(16, 2), 3);
        Check.tell(x, "call 0 1 0 1439 9 9 0;sort 0 1 200 a;sort 0 2 200 b");
        Check.due("better not done", x.best(16, 2), 0);
    }

    private static void bestOfEquals() {
        CarryUp x = Check.told("call 0 1 0 1439 9 9 9;sort 0 1 0 none or cd;call 1 1 0 1439 0 0 0;sort 1 1 0 a");
        Check.due("the least number", x.best(0, 1), 4);
        Check.due("what brings nothing is not carried", x.best(1, 1), 0);
        Check.due("no call", x.best(102, 2), 0);
        Check.tell(x, "thing c 41 0 part");
        Check.due("the one that may be", x.best(0, 1), 8);
    }

    private static void sure() {
        CarryUp x = Check.told("thing a 5 0 part;thing b 3 0 part;thing c 2 0 part;load 8;call 0 1 0 1439 0 0 0;sort 0 3 0 a;sort 0 2 0 b;sort 0 1 0 c");
        Check.due("half: a, or b and c", x.sure(0, 1, 1, 2), 1);
        Check.due("a little less than half", x.sure(0, 1, 49, 99), 1);
        Check.due("a third: b", x.sure(0, 1, 1, 3), 2);
        Check.due("a sixth: c", x.sure(0, 1, 1, 6), 4);
        Check.due("more than a sixth: b", x.sure(0, 1, 17, 99), 2);
        Check.due("two of three: a, c", x.sure(0, 1, 2, 3), 5);
        Check.due("more than two of three: a, b", x.sure(0, 1, 67, 99), 3);
        Check.due("more than may be", x.sure(0, 1, 84, 99), CarryUp.NONE);
        Check.due("nothing is asked for", x.sure(0, 1, 0, 99), 0);
        Check.tell(x, "load 10");
        Check.due("all", x.sure(0, 1, 1, 1), 7);
        Check.due("home is done for sure", x.sure(6, 1, 99, 99), 0);
        Check.tell(x, "begin 1430;call 1 2 0 1439 0 0 0;sort 1 1 0 none");
        Check.due("never late", x.sure(1, 1, 1, 1), CarryUp.NONE);
        Check.due("late, and nothing asked", x.sure(1, 1, 0, 1), 0);
    }

    private static void sureOfEquals() {
        CarryUp x = Check.told("thing a 2 0 part;thing b 1 0 part;thing c 1 0 part;thing d 2 0 part;call 0 1 0 1439 0 0 0;sort 0 1 0 none or ad;sort 0 1 0 bc");
        Check.due("the least number of weight 2", x.sure(0, 1, 1, 2), 1);
        Check.due("the least number of weight 4", x.sure(0, 1, 1, 1), 7);
        Check.tell(x, "thing d 1 0 part");
        Check.due("the least weight ahead of the least number", x.sure(0, 1, 1, 2), 8);
        Check.due("d is lighter now, all", x.sure(0, 1, 1, 1), 14);
    }

    private static void refused() {
        CarryUp x = Check.told("call 0 1 0 1439 9 9 9;sort 0 1 0 none;call 1 1 0 1439 9 9 9");
        Check.due("does: call not told", x.does(256, 2, 0), CarryUp.UNKNOWN);
        Check.due("does: no such sort", x.does(256, 0, 1), CarryUp.UNKNOWN);
        Check.due("does: no sort", x.does(0, 1, 0), CarryUp.UNKNOWN);
        Check.due("does: sort -1", x.does(0, 0, -1), CarryUp.UNKNOWN);
        Check.due("does: bag", x.does(256, 0, 0), CarryUp.OUTSIDE);
        Check.due("does: bag -1", x.does(-1, 0, 0), CarryUp.OUTSIDE);
        Check.due("best: n 0", x.best(1, 0), CarryUp.OUTSIDE);
        Check.due("best: n 7", x.best(0x666666, 7), CarryUp.OUTSIDE);
        Check.due("best: no sort", x.best(1, 1), CarryUp.UNKNOWN);
        Check.due("best: a call twice, one unknown", x.best(0x700, 3), CarryUp.UNKNOWN);
        Check.due("best: a call twice", x.best(0x060, 3), CarryUp.OUTSIDE);
        Check.due("best: home twice", x.best(0x606, 3), 0);
        Check.due("best: what is beyond n is not looked at", x.best(0x7000, 1), 0);
        Check.due("sure: n ahead of all", x.sure(1, 7, 0, 0), CarryUp.OUTSIDE);
        Check.due("sure: unknown ahead of b", x.sure(1, 1, 0, 0), CarryUp.UNKNOWN);
        Check.due("sure: a call twice", x.sure(0, 2, 0, 1), CarryUp.OUTSIDE);
        Check.due("sure: b 0", x.sure(0, 1, 0, 0), CarryUp.OUTSIDE);
        Check.due("sure: b 100", x.sure(0, 1, 1, 100), CarryUp.OUTSIDE);
        Check.due("sure: a -1", x.sure(0, 1, -1, 1), CarryUp.OUTSIDE);
        Check.due("sure: a above b", x.sure(0, 1, 2, 1), CarryUp.OUTSIDE);
    }
}
