/** Promises 5 to 10 and 29: what the LINES told, thing, call, sort, way, may, count. */
public final class DayTest {
    public static void main(String[] args) {
        things();
        ways();
        calls();
        sorts();
        sortsPassedOver();
        mayBe();
        counts();
        Check.end();
    }

    private static void things() {
        CarryUp x = Check.told("thing a 7 3 tool;thing h 99 99 part;thing c 2 1 tool", "thing c 4 0 part");
        thing(x, 0, 7, 3, 1);
        thing(x, 1, 1, 0, 0);
        thing(x, 2, 4, 0, 0);
        thing(x, 7, 99, 99, 0);
        Check.due("thing -1", x.thing(-1, 0), CarryUp.UNKNOWN);
        Check.due("thing 8", x.thing(8, 9), CarryUp.UNKNOWN);
        Check.due("what -1", x.thing(0, -1), CarryUp.OUTSIDE);
        Check.due("what 3", x.thing(7, 3), CarryUp.OUTSIDE);
    }

    private static void thing(CarryUp x, int thing, int weight, int price, int tool) {
        Check.due("weight of " + thing, x.thing(thing, 0), weight);
        Check.due("price of " + thing, x.thing(thing, 1), price);
        Check.due("tool " + thing, x.thing(thing, 2), tool);
    }

    private static void ways() {
        CarryUp x = Check.told("way 0 3 25;way 5 1 200;way 2 1 0;way 3 0 26");
        Check.due("way 0 3", x.way(0, 3), 26);
        Check.due("way 3 0", x.way(3, 0), 26);
        Check.due("way 1 5", x.way(1, 5), 200);
        Check.due("way 5 1", x.way(5, 1), 200);
        Check.due("way 1 2", x.way(1, 2), 0);
        Check.due("way 3 3", x.way(3, 3), 0);
        Check.due("way not told", x.way(4, 5), 10);
        Check.due("way -1", x.way(-1, 0), CarryUp.UNKNOWN);
        Check.due("way 6", x.way(6, 0), CarryUp.UNKNOWN);
        Check.due("way to -1", x.way(0, -1), CarryUp.UNKNOWN);
        Check.due("way to 6", x.way(5, 6), CarryUp.UNKNOWN);
        Check.due("way 6 6", x.way(6, 6), CarryUp.UNKNOWN);
    }

    private static void calls() {
        CarryUp x = Check.told("call 4 5 600 700 90 80 70;sort 4 1 2 a;sort 4 3 4 b");
        int[] told = {5, 600, 700, 90, 80, 70, 2};
        for (int what = 0; what < 7; what++) Check.due("call 4 " + what, x.call(4, what), told[what]);
        Check.due("call 4 7", x.call(4, 7), CarryUp.OUTSIDE);
        Check.due("call 4 -1", x.call(4, -1), CarryUp.OUTSIDE);
        Check.due("a call not told", x.call(3, 7), CarryUp.UNKNOWN);
        Check.due("call -1", x.call(-1, 0), CarryUp.UNKNOWN);
        Check.due("call 6", x.call(6, 0), CarryUp.UNKNOWN);
        Check.tell(x, "call 4 1 0 1 2 3 4");
        int[] anew = {1, 0, 1, 2, 3, 4, 0};
        for (int what = 0; what < 7; what++) Check.due("call 4 anew " + what, x.call(4, what), anew[what]);
        Check.due("its sorts are gone", x.sort(4, 0, 0), CarryUp.UNKNOWN);
        Check.due("no sort, no chance", x.chance(0, 4, 0), CarryUp.UNKNOWN);
    }

    private static void sorts() {
        CarryUp x = Check.told("call 0 1 0 0 0 0 0;sort 0 20 200 none;sort 0 1 0 ba or hc", "sort 0 2 5 d");
        int[][] told = {{20, 200, 0, 0}, {1, 0, 3, 132}, {2, 5, 8, 0}};
        for (int s = 0; s < 3; s++) {
            for (int what = 0; what < 4; what++) Check.due("sort " + s + " " + what, x.sort(0, s, what), told[s][what]);
        }
        Check.due("sort not told", x.sort(0, 3, 0), CarryUp.UNKNOWN);
        Check.due("sort -1", x.sort(0, -1, 9), CarryUp.UNKNOWN);
        Check.due("sort of no call", x.sort(1, 0, 0), CarryUp.UNKNOWN);
        Check.due("sort of call -1", x.sort(-1, 0, 0), CarryUp.UNKNOWN);
        Check.due("sort of call 6", x.sort(6, 0, 0), CarryUp.UNKNOWN);
        Check.due("what -1", x.sort(0, 0, -1), CarryUp.OUTSIDE);
        Check.due("what 4", x.sort(0, 0, 4), CarryUp.OUTSIDE);
    }

    private static void sortsPassedOver() {
        CarryUp x = Check.told("sort 2 5 5 a;call 2 1 0 0 0 0 0;sort 2 1 1 a;sort 2 2 2 b;sort 2 3 3 c");
        Check.due("a sort ahead of its call", x.call(2, 6), 3);
        Check.tell(x, "sort 2 4 4 d;sort 2 5 5 e");
        Check.due("a fifth sort", x.call(2, 6), 4);
        for (int s = 0; s < 4; s++) Check.due("sort " + s, x.sort(2, s, 0), s + 1);
        Check.due("likely of four", x.chance(15, 2, 0), 1);
        Check.due("no trace of the fifth", x.chance(1, 2, 1), 10);
        Check.due("what is passed over counts as a line", tellAlone("sort 5 1 1 none"), 1);
    }

    private static int tellAlone(String text) {
        CarryUp x = new CarryUp();
        Check.write(x, text);
        int lines = x.day();
        Check.due("no call came of it", x.count(0), 0);
        return lines;
    }

    private static void mayBe() {
        CarryUp x = Check.told("thing a 20 5 part", "thing a 20 50 part;thing b 20 49 tool;thing c 1 0 part;load 40;purse 99");
        Check.due("as much as LOAD and PURSE", x.may(3), 1);
        Check.due("more than LOAD", x.may(7), 0);
        Check.due("nothing", x.may(0), 1);
        Check.tell(x, "purse 98");
        Check.due("more than PURSE", x.may(3), 0);
        Check.due("one of them", x.may(2), 1);
        Check.tell(x, "load 0;purse 0");
        Check.due("nothing, no LOAD", x.may(0), 1);
        Check.due("something, no LOAD", x.may(4), 0);
        Check.due("may -1", x.may(-1), CarryUp.OUTSIDE);
        Check.due("may 256", x.may(256), CarryUp.OUTSIDE);
        Check.due("may 255", x.may(255), 0);
    }

    private static void counts() {
        CarryUp x = Check.told("call 0 1 0 0 0 0 0;call 5 1 0 0 0 0 0;call 5 2 0 0 0 0 0;sort 0 1 1 none;load 3;purse 4;begin 5");
        x.visit(0, 0, 0);
        x.write(0, 3);
        int[] told = {2, 3, 1, 3, 4, 5};
        for (int what = 0; what < 6; what++) Check.due("count " + what, x.count(what), told[what]);
        Check.due("count -1", x.count(-1), CarryUp.OUTSIDE);
        Check.due("count 6", x.count(6), CarryUp.OUTSIDE);
    }
}
