/** Promises 20, 21: value, next. */
public final class NowTest {
    public static void main(String[] args) {
        nothingLeft();
        oneLeft();
        byWhatHeFound();
        goingOnlyWhereItPays();
        late();
        lookTakesMinutes();
        equals();
        fourLeft();
        refused();
        Check.end();
    }

    private static void value(String what, CarryUp x, int place, int minute, int bag, int set, long above, long below, int next) {
        Check.due("value of " + what, x.value(place, minute, bag, set, 0), above);
        Check.due("value below of " + what, x.value(place, minute, bag, set, 1), below);
        Check.due("next of " + what, x.next(place, minute, bag, set), next);
    }

    private static void nothingLeft() {
        CarryUp x = new CarryUp();
        value("nothing", x, 0, 0, 0, 0, 0, 1, CarryUp.NONE);
        value("nothing", x, 5, 1439, 255, 0, 0, 1, CarryUp.NONE);
    }

    private static void oneLeft() {
        CarryUp x = Check.told("call 3 2 500 600 10 6 5;sort 3 2 20 a;sort 3 1 20 none or bc");
        value("a", x, 0, 480, 1, 8, 14, 3, 3);
        value("a, c", x, 0, 480, 5, 8, 10, 1, 3);
        value("b: as likely not done, it costs more", x, 0, 480, 2, 8, 0, 1, CarryUp.NONE);
        value("there as it shuts", x, 0, 590, 5, 8, 10, 1, 3);
        value("late", x, 0, 591, 5, 8, 0, 1, CarryUp.NONE);
        value("at its place as it shuts", x, 2, 600, 5, 8, 10, 1, 3);
        value("at its place behind", x, 2, 601, 5, 8, 0, 1, CarryUp.NONE);
        Check.tell(x, "call 3 2 500 600 12 6 5;sort 3 1 20 b;sort 3 2 20 a");
        value("to go brings as much as to end", x, 0, 480, 2, 8, 0, 1, CarryUp.NONE);
    }

    private static void byWhatHeFound() {
        // call 0 wants a for one of two; call 1 always wants a, and costs as much as it brings
        CarryUp x = Check.told("call 0 1 0 1439 10 0 5;sort 0 1 5 a;sort 0 1 5 b;call 1 2 0 1439 8 9 5;sort 1 1 5 a");
        // 0: if it is a, he ends with 10; if it is b, he goes on to 1 with 8
        value("a", x, 0, 480, 1, 3, 9, 1, 0);
        value("a, b", x, 0, 480, 3, 3, 14, 1, 0);
        value("only 1", x, 0, 480, 1, 2, 8, 1, 1);
        value("nothing in hand", x, 0, 480, 0, 3, 0, 1, CarryUp.NONE);
        Check.tell(x, "thing a 1 0 tool");
        value("a tool", x, 0, 480, 1, 3, 13, 1, 0);
        Check.tell(x, "thing a 1 0 part;call 1 2 0 1439 12 9 5;sort 1 1 5 a");
        // 1 first: 12, and then 0 is not done, which costs nothing
        value("the other one first", x, 0, 480, 1, 3, 12, 1, 1);
    }

    private static void goingOnlyWhereItPays() {
        CarryUp x = Check.told("call 0 1 0 1439 5 99 0;sort 0 1 0 a;call 1 1 0 1439 5 99 0;sort 1 20 0 b;sort 1 1 0 a;call 2 1 0 1439 5 99 0;sort 2 1 0 c");
        value("again is paid only where he goes", x, 0, 0, 1, 7, 5, 1, 0);
        value("with c", x, 0, 0, 5, 7, 10, 1, 0);
        // 1 ahead of 0: 20 of 21 leave a for 0, one of 21 uses it up
        value("with a, b", x, 0, 0, 3, 3, 205, 21, 1);
        value("with b", x, 0, 0, 2, 2, 1, 21, 1);
    }

    private static void late() {
        // 1 shuts before 0 can be done; 0 is worth more
        CarryUp x = Check.told("call 0 1 600 700 20 5 5;sort 0 1 5 none;call 1 1 600 604 15 5 5;sort 1 1 5 none;call 2 3 0 100 9 0 0;sort 2 1 0 none");
        value("one of both", x, 1, 600, 0, 3, 35, 1, 1);
        Check.tell(x, "call 0 1 600 604 20 5 5;sort 0 1 5 none");
        value("the dearer", x, 1, 0, 0, 3, 20, 1, 0);
        // by way of the place of 2, where he is late, he is in time for 0
        Check.tell(x, "way 0 1 100;way 0 3 1;way 3 1 1;call 0 1 0 550 20 5 5;sort 0 1 5 none;begin 0");
        value("late, but on his way", x, 0, 500, 0, 5, 20, 1, 2);
        value("too late for both", x, 0, 549, 0, 5, 0, 1, CarryUp.NONE);
        Check.tell(x, "call 2 3 0 100 9 20 0;sort 2 1 0 none");
        value("late costs as much", x, 0, 500, 0, 5, 0, 1, CarryUp.NONE);
        Check.tell(x, "call 2 3 0 100 9 19 0;sort 2 1 0 none");
        value("late costs less", x, 0, 500, 0, 5, 1, 1, 2);
    }

    private static void lookTakesMinutes() {
        // 1 takes so long that 0 is shut behind it
        CarryUp x = Check.told("call 0 1 0 500 10 1 30;sort 0 1 0 a;sort 0 1 0 b;call 1 1 0 520 8 9 0;sort 1 1 100 none");
        value("there as 1 shuts", x, 0, 480, 1, 3, 25, 2, 0);
        Check.tell(x, "call 0 1 0 500 10 1 31;sort 0 1 0 a;sort 0 1 0 b");
        value("1 has shut, if 0 was looked at", x, 0, 480, 1, 3, 17, 2, 0);
    }

    private static void equals() {
        CarryUp x = Check.told("call 1 1 0 1439 5 5 5;sort 1 1 5 none;call 4 1 0 1439 5 5 5;sort 4 1 5 none;call 5 1 0 1439 6 5 5;sort 5 2 5 b;sort 5 1 5 none");
        value("the least one", x, 0, 480, 2, 50, 16, 1, 1);
        value("the least one of two", x, 0, 480, 0, 18, 10, 1, 1);
        value("not the last one", x, 0, 480, 0, 48, 5, 1, 4);
    }

    private static void fourLeft() {
        CarryUp x = new CarryUp();
        for (int c = 0; c < 5; c++) Check.tell(x, "call " + c + " 1 0 1439 99 99 0;sort " + c + " 20 0 a;sort " + c + " 20 0 b;sort " + c + " 20 0 c;sort " + c + " 19 0 none");
        Check.tell(x, "thing a 1 0 tool;thing b 1 0 tool");
        value("four of two things", x, 0, 0, 3, 15, 4 * 99 * 39, 79, 0);
        value("four of one thing", x, 0, 0, 1, 30, 0, 1, CarryUp.NONE);
    }

    private static void refused() {
        long unknown = CarryUp.LEAST + 2, outside = CarryUp.LEAST + 3;
        CarryUp x = new CarryUp();
        for (int c = 0; c < 5; c++) Check.tell(x, "call " + c + " 1 0 1439 9 9 0;sort " + c + " 1 0 none");
        Check.tell(x, "call 5 1 0 1439 9 9 0");
        int[][] asked = {{-1, 0, 0, 64}, {6, 0, 0, 64}, {0, 0, 0, -1}, {0, 0, 0, 64}, {0, -1, 0, 32}, {0, 0, 256, 63},
            {0, 0, 0, 31}, {0, -1, 0, 1}, {0, 1440, 0, 1}, {0, 0, -1, 1}, {0, 0, 256, 1}};
        boolean[] isUnknown = {true, true, false, false, true, true, false, false, false, false, false};
        for (int i = 0; i < asked.length; i++) {
            int[] a = asked[i];
            Check.due("value refused " + i, x.value(a[0], a[1], a[2], a[3], 0), isUnknown[i] ? unknown : outside);
            Check.due("next refused " + i, x.next(a[0], a[1], a[2], a[3]), isUnknown[i] ? CarryUp.UNKNOWN : CarryUp.OUTSIDE);
        }
        Check.due("part -1", x.value(0, 0, 0, 1, -1), outside);
        Check.due("part 2", x.value(0, 0, 0, 1, 2), outside);
        Check.due("unknown ahead of part", x.value(0, 0, 0, 32, 2), unknown);
        Check.due("four of them", x.value(1, 1439, 255, 30, 0), 36);
    }
}
