import java.util.function.ToIntFunction;

/**
 * Terms, THE TEXT: the bounds of each number that a LINE tells: the last one allowed and the first one that is not,
 * on both sides, and how many digits it may have. What is allowed is told; what is not is a FAULT at its place.
 */
public final class NumbersTest {
    /** All CALLS are told, so that a SORT of any of them can be. */
    private static final String ALL_CALLS = "call 0 1 0 0 0 0 0;call 1 1 0 0 0 0 0;call 2 1 0 0 0 0 0;call 3 1 0 0 0 0 0;"
        + "call 4 1 0 0 0 0 0;call 5 1 0 0 0 0 0";

    public static void main(String[] args) {
        weights();
        prices();
        loads();
        purses();
        begins();
        wayPlaces();
        wayMinutes();
        callNumbers();
        callPlaces();
        callHours();
        callCosts();
        sortCalls();
        sortNumbers();
        Check.end();
    }

    private static void weights() {
        number("thing a ", 1, 99, " 0 part", x -> x.thing(0, 0));
        number("thing h ", 1, 99, " 99 tool", x -> x.thing(7, 0));
    }

    private static void prices() {
        number("thing a 1 ", 0, 99, " part", x -> x.thing(0, 1));
        number("thing h 99 ", 0, 99, " tool", x -> x.thing(7, 1));
    }

    private static void loads() {
        number("load ", 0, 400, "", x -> x.count(3));
    }

    private static void purses() {
        number("purse ", 0, 999, "", x -> x.count(4));
    }

    private static void begins() {
        number("begin ", 0, 1439, "", x -> x.count(5));
    }

    private static void wayPlaces() {
        for (int a = 0; a < 6; a++) {
            for (int b = 0; b < 6; b++) {
                String text = "way " + a + " " + b + " 77";
                if (a == b) {
                    fault(text, 6);
                    continue;
                }
                CarryUp x = Check.told(text);
                Check.due(text, x.way(a, b), 77);
                Check.due(text + ", back", x.way(b, a), 77);
                int tens = 0;
                for (int i = 0; i < 36; i++) tens += x.way(i / 6, i % 6) == 10 ? 1 : 0;
                Check.due("all other ways are as they were", tens, 28);
            }
        }
        for (String beyond : new String[] {"6", "7", "10", "0006", "9999", "00000"}) {
            fault("way " + beyond + " 0 1", 4);
            fault("way " + beyond + " " + beyond + " 1", 4);
            fault("way 0 " + beyond + " 1", 6);
        }
        fault("way 3 003 1", 6);
        fault("way 003 3 1", 8);
        CarryUp x = Check.told("way 0005 0000 9");
        Check.due("places of four digits", x.way(0, 5), 9);
    }

    private static void wayMinutes() {
        number("way 0 1 ", 0, 200, "", x -> x.way(0, 1));
        number("way 5 4 ", 0, 200, "", x -> x.way(4, 5));
    }

    private static void callNumbers() {
        for (int c = 0; c < 6; c++) {
            CarryUp x = Check.told("call " + c + " 5 0 0 0 0 0");
            for (int other = 0; other < 6; other++) Check.due("place of call " + other, x.call(other, 0), other == c ? 5 : CarryUp.UNKNOWN);
        }
        number("call ", 0, 5, " 1 0 0 0 0 0", NumbersTest::theOneCall);
    }

    private static int theOneCall(CarryUp x) {
        for (int c = 0; c < 6; c++) {
            if (x.call(c, 0) != CarryUp.UNKNOWN) return c;
        }
        return CarryUp.UNKNOWN;
    }

    private static void callPlaces() {
        number("call 0 ", 1, 5, " 0 0 0 0 0", x -> x.call(0, 0));
    }

    private static void callHours() {
        number("call 0 1 ", 0, 1439, " 1439 0 0 0", x -> x.call(0, 1));
        number("call 0 1 0 ", 0, 1439, " 0 0 0", x -> x.call(0, 2));
        number("call 0 1 1 ", 1, 1439, " 0 0 0", x -> x.call(0, 2));
        number("call 0 1 700 ", 700, 1439, " 0 0 0", x -> x.call(0, 2));
        number("call 0 1 1438 ", 1438, 1439, " 0 0 0", x -> x.call(0, 2));
        number("call 0 1 1439 ", 1439, 1439, " 0 0 0", x -> x.call(0, 2));
    }

    private static void callCosts() {
        number("call 0 1 0 0 ", 0, 99, " 0 0", x -> x.call(0, 3));
        number("call 0 1 0 0 0 ", 0, 99, " 0", x -> x.call(0, 4));
        number("call 0 1 0 0 0 0 ", 0, 99, "", x -> x.call(0, 5));
    }

    private static void sortCalls() {
        number("sort ", 0, 5, " 1 0 none", NumbersTest::theOneCallWithASort);
    }

    private static int theOneCallWithASort(CarryUp x) {
        for (int c = 0; c < 6; c++) {
            if (x.call(c, 6) == 1) return c;
        }
        return CarryUp.UNKNOWN;
    }

    private static void sortNumbers() {
        number("sort 0 ", 1, 20, " 0 none", x -> x.sort(0, 0, 0));
        number("sort 0 1 ", 0, 200, " none", x -> x.sort(0, 0, 1));
        number("sort 5 20 ", 0, 200, " abcdefgh or hgfedcba", x -> x.sort(5, 0, 1));
    }

    // ---- what a number may be

    private static void number(String ahead, int least, int most, String behind, ToIntFunction<CarryUp> told) {
        for (int number : new int[] {least, (least + most) / 2, most}) {
            told(ahead, "" + number, behind, told, number);
            told(ahead, String.format("%04d", number), behind, told, number);
            fault(ahead + String.format("%05d", number) + behind, ahead.length());
            fault(ahead + String.format("%010d", number) + behind, ahead.length());
        }
        if (least > 0) fault(ahead + (least - 1) + behind, ahead.length());
        if (least > 0) fault(ahead + "0" + behind, ahead.length());
        fault(ahead + (most + 1) + behind, ahead.length());
        fault(ahead + "9999" + behind, ahead.length());
        fault(ahead + "10000" + behind, ahead.length());
        // what would come round to a number that is allowed, if it were held in 32 or 64 bits
        fault(ahead + (4294967296L + most) + behind, ahead.length());
        fault(ahead + "18446744073709551617" + behind, ahead.length());
        fault(ahead + "-1" + behind, ahead.length());
        fault(ahead + "+1" + behind, ahead.length());
        fault(ahead + "a" + behind, ahead.length());
        fault(ahead + ";" + behind, ahead.length());
    }

    private static void told(String ahead, String number, String behind, ToIntFunction<CarryUp> told, int want) {
        CarryUp x = ahead.startsWith("sort") ? Check.told(ALL_CALLS) : new CarryUp();
        String text = ahead + number + behind;
        Check.write(x, text);
        Check.due("fault of '" + text + "'", x.fault(), CarryUp.NONE);
        Check.due("day of '" + text + "'", x.day(), 1);
        Check.due("what '" + text + "' told", told.applyAsInt(x), want);
        Check.due("bytes behind '" + text + "'", x.count(1), 0);
    }

    private static void fault(String text, int place) {
        CarryUp x = Check.told(ALL_CALLS);
        Check.write(x, text);
        Check.due("fault of '" + text + "'", x.fault(), place);
        Check.refused(x, "day of '" + text + "'", x::day, CarryUp.NOT);
    }
}
