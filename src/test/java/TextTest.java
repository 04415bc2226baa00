/** Promises 1 to 5: a new object, write, erase, fault, day. */
public final class TextTest {
    public static void main(String[] args) {
        aNewObject();
        writing();
        full();
        everyLine();
        tokens();
        things();
        numbers();
        ways();
        calls();
        sorts();
        between();
        dayIsRefused();
        Check.end();
    }

    private static void aNewObject() {
        CarryUp x = new CarryUp();
        int[] first = {0, 0, 0, 40, 999, 480};
        for (int what = 0; what < 6; what++) Check.due("new count " + what, x.count(what), first[what]);
        for (int i = 0; i < 8; i++) {
            Check.due("new weight", x.thing(i, 0), 1);
            Check.due("new price", x.thing(i, 1), 0);
            Check.due("new tool", x.thing(i, 2), 0);
        }
        for (int a = 0; a < 6; a++) {
            Check.due("new call", x.call(a, 0), CarryUp.UNKNOWN);
            for (int b = 0; b < 6; b++) Check.due("new way", x.way(a, b), a == b ? 0 : 10);
        }
        Check.due("the constants", CarryUp.NONE, -1);
        Check.due("the constants", CarryUp.UNKNOWN, -2);
        Check.due("the constants", CarryUp.OUTSIDE, -3);
        Check.due("the constants", CarryUp.NOT, -4);
        Check.due("the constants", CarryUp.FULL, -5);
        Check.due("the constants", CarryUp.LEAST, -9000000000000000000L);
    }

    private static void writing() {
        CarryUp x = new CarryUp();
        Check.due("write", x.write(Check.bytes("load 7zz"), 6), 6);
        Check.due("bytes beyond n are not written", x.fault(), -1);
        Check.due("write more", x.write(Check.bytes("1"), 1), 7);
        Check.due("count of bytes", x.count(1), 7);
        Check.due("write none", x.write(0, 0), CarryUp.OUTSIDE);
        Check.due("write nine", x.write(0, 9), CarryUp.OUTSIDE);
        Check.due("write less than none", x.write(0, Integer.MIN_VALUE), CarryUp.OUTSIDE);
        Check.due("write very many", x.write(0, Integer.MAX_VALUE), CarryUp.OUTSIDE);
        Check.due("nothing changed", x.count(1), 7);
        Check.due("day", x.day(), 1);
        Check.due("load", x.count(3), 71);
        Check.due("empty behind a day", x.count(1), 0);
        Check.due("erase nothing", x.erase(), 0);
        Check.write(x, "begin");
        Check.due("erase", x.erase(), 5);
        Check.due("empty behind erase", x.count(1), 0);
        Check.due("the highest byte of eight", x.write(-1L, 8), 8);
        Check.due("bytes of 255", x.fault(), 0);
    }

    private static void full() {
        CarryUp x = new CarryUp();
        for (int i = 0; i < 24; i++) x.write(Check.bytes("        "), 8);
        Check.due("192 bytes", x.count(1), 192);
        Check.due("197 bytes", x.write(Check.bytes("load "), 5), 197);
        Check.due("201 bytes", x.write(Check.bytes("1000"), 4), CarryUp.FULL);
        Check.due("OUTSIDE ahead of FULL", x.write(0, 9), CarryUp.OUTSIDE);
        Check.due("nothing changed", x.count(1), 197);
        Check.due("200 bytes", x.write(Check.bytes("399"), 3), 200);
        Check.due("one more", x.write(Check.bytes(" "), 1), CarryUp.FULL);
        Check.due("no fault in 200", x.fault(), -1);
        Check.due("day of 200", x.day(), 1);
        Check.due("load of 200", x.count(3), 399);
        for (int i = 0; i < 25; i++) x.write(Check.bytes("        "), 8);
        Check.due("200 blanks end too soon", x.fault(), 200);
        Check.due("erase 200", x.erase(), 200);
    }

    private static void everyLine() {
        CarryUp x = new CarryUp();
        String[] right = {"thing a 1 0 part", "thing h 99 99 tool", "load 0", "load 400", "purse 0", "purse 999",
            "begin 0", "begin 1439", "way 0 5 0", "way 5 4 200", "call 0 1 0 0 0 0 0", "call 5 5 1439 1439 99 99 99",
            "sort 0 1 0 none", "sort 5 20 200 abcdefgh", "sort 0 1 0 none or a", "sort 0 1 0 hgfedcba or hgfedcba"};
        for (String line : right) {
            Check.fault(x, line, -1);
            for (int cut = 1; cut < line.length(); cut++) {
                // what is cut off ahead of "or" leaves a whole LINE
                boolean tooSoon = line.charAt(cut) == ' ' && !line.startsWith(" or", cut);
                if (tooSoon) Check.fault(x, line.substring(0, cut), cut);
            }
        }
    }

    private static void tokens() {
        CarryUp x = new CarryUp();
        Check.fault(x, "", 0);
        Check.fault(x, "   ", 3);
        Check.fault(x, "loads 5", 0);
        Check.fault(x, "loa", 0);
        Check.fault(x, "Load 5", 0);
        Check.fault(x, "load5", -1);
        Check.fault(x, "  load   5   ", -1);
        Check.fault(x, "load 5 5", 7);
        Check.fault(x, "load 5a", 6);
        Check.fault(x, "load -5", 5);
        Check.fault(x, "load\t5", 4);
        Check.fault(x, "load 5.", 6);
        Check.fault(x, "load five", 5);
        Check.fault(x, "5", 0);
        Check.fault(x, "load", 4);
        Check.fault(x, "load  ", 6);
        Check.fault(x, "load 1\u00ff", 6);
        Check.fault(x, "load 1\u0000", 6);
        Check.fault(x, "thinga10 0 part", 0);
        Check.fault(x, "thing a1 0part", -1);
        Check.fault(x, "thing a 1 0 parts", 12);
        Check.fault(x, "sort 0 1 0none or a", -1);
        Check.fault(x, "sort 0 1 0 none ora", 16);
        Check.fault(x, "load 1 part", 7);
        Check.fault(x, "bag 1", 0);
        Check.fault(x, "`", 0);
        Check.fault(x, "{", 0);
        Check.fault(x, "load/", 4);
        Check.fault(x, "load:", 4);
    }

    private static void things() {
        CarryUp x = new CarryUp();
        Check.fault(x, "thing i 1 0 part", 6);
        Check.fault(x, "thing ab 1 0 part", 6);
        Check.fault(x, "thing aa 1 0 part", 6);
        Check.fault(x, "thing 0 1 0 part", 6);
        Check.fault(x, "thing a 0 0 part", 8);
        Check.fault(x, "thing a 100 0 part", 8);
        Check.fault(x, "thing a 1 100 part", 10);
        Check.fault(x, "thing a 1 0", 11);
        Check.fault(x, "thing a 1 0 ;load 1", 12);
        Check.fault(x, "thing a 1 0 part tool", 17);
        Check.fault(x, "thing a 1 0 or", 12);
        Check.fault(x, "thing h 99 99 tool", -1);
    }

    private static void numbers() {
        CarryUp x = new CarryUp();
        Check.fault(x, "load 401", 5);
        Check.fault(x, "load 0400", -1);
        Check.fault(x, "load 00400", 5);
        Check.fault(x, "load 00000", 5);
        Check.fault(x, "load 99999999999999999999", 5);
        Check.fault(x, "load 4294967296", 5);
        Check.fault(x, "purse 1000", 6);
        Check.fault(x, "begin 1440", 6);
        Check.fault(x, "begin 4 0", 8);
    }

    private static void ways() {
        CarryUp x = new CarryUp();
        Check.fault(x, "way 6 0 1", 4);
        Check.fault(x, "way 0 6 1", 6);
        Check.fault(x, "way 0 0 1", 6);
        Check.fault(x, "way 5 05 1", 6);
        Check.fault(x, "way 0 1 201", 8);
        Check.fault(x, "way 0 a 1", 6);
        Check.fault(x, "way 01 1", 7);
        Check.fault(x, "way 6 6 1", 4);
    }

    private static void calls() {
        CarryUp x = new CarryUp();
        Check.fault(x, "call 6 1 0 0 0 0 0", 5);
        Check.fault(x, "call 0 0 0 0 0 0 0", 7);
        Check.fault(x, "call 0 6 0 0 0 0 0", 7);
        Check.fault(x, "call 0 1 1440 1440 0 0 0", 9);
        Check.fault(x, "call 0 1 700 699 0 0 0", 13);
        Check.fault(x, "call 0 1 700 700 0 0 0", -1);
        Check.fault(x, "call 0 1 700 1440 0 0 0", 13);
        Check.fault(x, "call 0 1 0 0 100 0 0", 13);
        Check.fault(x, "call 0 1 0 0 0 100 0", 15);
        Check.fault(x, "call 0 1 0 0 0 0 100", 17);
        Check.fault(x, "call 0 1 0 0 0 0", 16);
        Check.fault(x, "call 0 1 0 0 0 0 0 0", 19);
    }

    private static void sorts() {
        CarryUp x = new CarryUp();
        Check.fault(x, "sort 6 1 0 none", 5);
        Check.fault(x, "sort 0 0 0 none", 7);
        Check.fault(x, "sort 0 21 0 none", 7);
        Check.fault(x, "sort 0 1 201 none", 9);
        Check.fault(x, "sort 0 1 0 aba", 11);
        Check.fault(x, "sort 0 1 0 abi", 11);
        Check.fault(x, "sort 0 1 0 nones", 11);
        Check.fault(x, "sort 0 1 0 or a", 11);
        Check.fault(x, "sort 0 1 0 5", 11);
        Check.fault(x, "sort 0 1 0", 10);
        Check.fault(x, "sort 0 1 0 none or", 18);
        Check.fault(x, "sort 0 1 0 none or none", 19);
        Check.fault(x, "sort 0 1 0 none or aa", 19);
        Check.fault(x, "sort 0 1 0 none or 1", 19);
        Check.fault(x, "sort 0 1 0 a b", 13);
        Check.fault(x, "sort 0 1 0 a or b or c", 18);
        Check.fault(x, "sort 0 1 0 a or b c", 18);
    }

    private static void between() {
        CarryUp x = new CarryUp();
        Check.fault(x, ";", 0);
        Check.fault(x, "load 1;", 7);
        Check.fault(x, "load 1; ", 8);
        Check.fault(x, "load 1;;load 2", 7);
        Check.fault(x, "load 1 load 2", 7);
        Check.fault(x, "load 1 ; load 2;begin 5", -1);
        Check.fault(x, "load 1;load 401;load 402", 12);
        Check.fault(x, "load1;load2;load3;load4;load5;load6;load7;load8;load9;load10", -1);
        Check.fault(x, "load1;load2;load3;load4;load5;load6;load7;load8;load9;load10;", 60);
        Check.fault(x, "load1;load2;load3;load4;load5;load6;load7;load8;load9;load10 ; load11", 61);
        Check.write(x, "load1;load2;load3;load4;load5;load6;load7;load8;load9;load10");
        Check.due("ten lines", x.day(), 10);
        Check.due("the last of them stands", x.count(3), 10);
    }

    private static void dayIsRefused() {
        CarryUp x = new CarryUp();
        Check.due("day of nothing", x.day(), CarryUp.NOT);
        Check.write(x, "load 7;begin 1440");
        Check.due("day with a fault", x.day(), CarryUp.NOT);
        Check.due("no line is done", x.count(3), 40);
        Check.due("the text stays", x.count(1), 17);
        Check.due("the fault stays", x.fault(), 13);
        x.erase();
        Check.write(x, "load 7;begin 143");
        Check.due("asking for the fault does nothing", x.fault(), -1);
        Check.due("not yet done", x.count(3), 40);
        Check.due("day", x.day(), 2);
        Check.due("done", x.count(3) * 1000 + x.count(5), 7143);
        Check.due("the text is gone", x.day(), CarryUp.NOT);
    }
}
