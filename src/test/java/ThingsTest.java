/** Promises 22 to 27: stands, idle, visit, saved, most, box. */
public final class ThingsTest {
    public static void main(String[] args) {
        stands();
        idle();
        visits();
        saved();
        most();
        box();
        boxOfEquals();
        writtenDown();
        Check.end();
    }

    private static void stands() {
        CarryUp x = Check.told("call 0 1 0 0 0 0 0;sort 0 1 0 a or bc;sort 0 1 0 none or cd", "call 4 1 0 0 0 0 0;sort 4 1 0 none or dch;sort 4 1 0 e or e");
        Check.due("c for b", x.stands(2, 1), 1);
        Check.due("b for c", x.stands(1, 2), 0);
        Check.due("c for d", x.stands(2, 3), 1);
        Check.due("d for c", x.stands(3, 2), 0);
        Check.due("c for h", x.stands(2, 7), 1);
        Check.due("d for h", x.stands(3, 7), 1);
        Check.due("h for d", x.stands(7, 3), 0);
        Check.due("none for what all wants", x.stands(2, 0), 0);
        Check.due("none for what both want", x.stands(2, 4), 0);
        Check.due("any for what no sort wants", x.stands(0, 5), 1);
        Check.due("what no sort wants, for another such", x.stands(6, 5), 1);
        Check.due("what no sort wants, for one", x.stands(5, 1), 0);
        Check.due("for itself", x.stands(5, 5), CarryUp.UNKNOWN);
        Check.due("thing -1", x.stands(-1, 0), CarryUp.UNKNOWN);
        Check.due("thing 8", x.stands(8, 0), CarryUp.UNKNOWN);
        Check.due("other -1", x.stands(0, -1), CarryUp.UNKNOWN);
        Check.due("other 8", x.stands(0, 8), CarryUp.UNKNOWN);
        Check.tell(x, "call 0 1 0 0 0 0 0;call 4 1 0 0 0 0 0");
        Check.due("no sort is left", x.stands(1, 0), 1);
    }

    private static void idle() {
        CarryUp x = new CarryUp();
        Check.due("all at first", x.idle(), 255);
        Check.tell(x, "call 0 1 0 0 0 0 0;sort 0 1 0 a or b;call 5 1 0 0 0 0 0;sort 5 1 0 none;sort 5 1 0 none or ha");
        Check.due("all but a, b, h", x.idle(), 124);
        Check.tell(x, "call 0 1 0 0 0 0 0;sort 0 1 0 cdefg");
        Check.due("b is idle again", x.idle(), 2);
    }

    private static void visits() {
        CarryUp x = Check.told("call 2 1 0 0 0 0 0;sort 2 1 0 a;sort 2 1 0 b;call 3 1 0 0 0 0 0");
        Check.due("no call", x.visit(0, 0, 256), CarryUp.UNKNOWN);
        Check.due("call 6", x.visit(6, 0, 0), CarryUp.UNKNOWN);
        Check.due("call -1", x.visit(-1, 0, 0), CarryUp.UNKNOWN);
        Check.due("no sort", x.visit(3, 0, 0), CarryUp.UNKNOWN);
        Check.due("no third sort", x.visit(2, 2, 0), CarryUp.UNKNOWN);
        Check.due("sort -1", x.visit(2, -1, 0), CarryUp.UNKNOWN);
        Check.due("bag -1", x.visit(2, 0, -1), CarryUp.OUTSIDE);
        Check.due("bag 256", x.visit(2, 0, 256), CarryUp.OUTSIDE);
        Check.due("nothing written", x.count(2), 0);
        for (int i = 1; i <= 16; i++) Check.due("visit", x.visit(2, i % 2, 0), i);
        Check.due("a 17th", x.visit(2, 0, 0), CarryUp.FULL);
        Check.due("OUTSIDE ahead of FULL", x.visit(2, 0, 256), CarryUp.OUTSIDE);
        Check.due("UNKNOWN ahead of FULL", x.visit(2, 2, 0), CarryUp.UNKNOWN);
        Check.due("sixteen", x.count(2), 16);
        Check.due("the sixteenth is in it", x.saved(1), 8);
    }

    private static void saved() {
        CarryUp x = Check.told("call 0 1 0 0 0 0 0;sort 0 1 0 ab;sort 0 1 0 c or de;sort 0 1 0 none");
        x.visit(0, 0, 0);
        x.visit(0, 0, 1);
        x.visit(0, 0, 3);
        x.visit(0, 1, 16);
        x.visit(0, 1, 4);
        x.visit(0, 2, 0);
        Check.due("nothing", x.saved(0), 0);
        Check.due("a", x.saved(1), 0);
        Check.due("b, with the a that was there", x.saved(2), 1);
        Check.due("a, b; the one that did is not saved", x.saved(3), 2);
        Check.due("c, with the e that was there", x.saved(4), 1);
        Check.due("d, with the c that was there", x.saved(8), 1);
        Check.due("c, d", x.saved(12), 2);
        Check.due("all", x.saved(255), 4);
        Check.due("set -1", x.saved(-1), CarryUp.OUTSIDE);
        Check.due("set 256", x.saved(256), CarryUp.OUTSIDE);
    }

    private static void most() {
        CarryUp x = Check.told("call 0 1 0 0 0 0 0;sort 0 1 0 h;sort 0 1 0 ce;sort 0 1 0 none or fg;sort 0 1 0 abcd");
        for (int k = 1; k <= 3; k++) Check.due("no visits", x.most(k), (1 << k) - 1);
        x.visit(0, 0, 0);
        x.visit(0, 1, 0);
        x.visit(0, 1, 0);
        Check.due("h", x.most(1), 128);
        Check.due("c, e", x.most(2), 20);
        Check.due("c, e, h", x.most(3), 148);
        x.visit(0, 2, 0);
        Check.due("f, as many as h, the least number", x.most(1), 32);
        Check.due("still c, e, ahead of f, h", x.most(2), 20);
        Check.due("c, e, f", x.most(3), 52);
        x.visit(0, 2, 32);
        Check.due("what was done is not saved", x.most(3), 52);
        Check.due("k 0", x.most(0), CarryUp.OUTSIDE);
        Check.due("k 4", x.most(4), CarryUp.OUTSIDE);
        Check.due("k -1", x.most(-1), CarryUp.OUTSIDE);
    }

    private static void box() {
        CarryUp x = Check.told("call 0 1 0 0 0 0 0;sort 0 1 0 a;sort 0 1 0 b;sort 0 1 0 none;thing a 25 5 part;thing b 15 5 part");
        Check.due("no visits", x.box(0), 0);
        Check.due("for none", x.box(1), 0);
        x.visit(0, 0, 1);
        x.visit(0, 1, 1);
        x.visit(0, 2, 0);
        Check.due("a, b", x.box(0), 3);
        Check.due("for three, the bags that were there do not count", x.box(1), 3);
        Check.tell(x, "load 39");
        Check.due("the lighter", x.box(0), 2);
        Check.due("for two", x.box(1), 2);
        x.visit(0, 0, 0);
        Check.due("most ahead of the lighter", x.box(0), 1);
        Check.due("for three", x.box(1), 3);
        Check.tell(x, "purse 4");
        Check.due("nothing may be", x.box(0), 0);
        Check.due("does for one", x.box(1), 1);
        Check.due("what -1", x.box(-1), CarryUp.OUTSIDE);
        Check.due("what 2", x.box(2), CarryUp.OUTSIDE);
    }

    private static void boxOfEquals() {
        CarryUp x = Check.told("call 0 1 0 0 0 0 0;sort 0 1 0 none or bcd;thing b 3 0 part;thing c 2 0 tool;thing d 2 0 part");
        x.visit(0, 0, 0);
        x.visit(0, 0, 0);
        Check.due("the least weight, then the least number", x.box(0), 4);
        Check.due("nothing is used up", x.box(1), 2);
    }

    private static void writtenDown() {
        CarryUp x = Check.told("call 0 1 0 0 0 0 0;sort 0 1 0 a or gh");
        x.visit(0, 0, 0);
        Check.tell(x, "call 0 1 0 0 0 0 0;sort 0 1 0 b");
        x.visit(0, 0, 0);
        Check.due("a, g", x.saved(65), 1);
        Check.due("b", x.saved(2), 1);
        Check.due("the box for both", x.box(0), 67);
        Check.due("b alone", x.most(1), 2);
        Check.due("a, b, g", x.most(3), 67);
    }
}
