/** Promises 20, 21: sets of none and of four, the first and the last minute, to go or to end where both bring as much. */
public final class NowEdgesTest {
    private static final long UNKNOWN = CarryUp.LEAST + 2, OUTSIDE = CarryUp.LEAST + 3;

    public static void main(String[] args) {
        noneLeft();
        fourLeft();
        fiveLeft();
        eachPlace();
        theFirstAndTheLastMinute();
        shutsToTheMinute();
        waitsTillItOpens();
        lateOnHisWay();
        nextByItself();
        toEndBringsAsMuch();
        theLeastOfEquals();
        partsAreUsedUp();
        homeIsNoWayOut();
        aCallOnce();
        theDaysBeginIsNothingToIt();
        inLowestTerms();
        callsWithoutSorts();
        refusedInTheirOrder();
        Check.end();
    }

    private static void now(String what, CarryUp x, int place, int minute, int bag, int set, long above, long below, int next) {
        Check.due("value of " + what, x.value(place, minute, bag, set, 0), above);
        Check.due("value of " + what + ", below", x.value(place, minute, bag, set, 1), below);
        Check.due("next of " + what, x.next(place, minute, bag, set), next);
    }

    /** Six CALLS at place 1, WORTH 1, 2, 4 .. 32, that want nothing. */
    private static CarryUp sixEasyCalls() {
        CarryUp x = new CarryUp();
        for (int c = 0; c < 6; c++) Check.tell(x, "call " + c + " 1 0 1439 " + (1 << c) + " 0 0;sort " + c + " 1 0 none");
        return x;
    }

    // ---- sets

    private static void noneLeft() {
        for (CarryUp x : new CarryUp[] {new CarryUp(), sixEasyCalls()}) {
            for (int place = 0; place < 6; place++) now("none", x, place, 1439, 255, 0, 0, 1, CarryUp.NONE);
        }
    }

    private static void fourLeft() {
        CarryUp x = sixEasyCalls();
        for (int set = 1; set < 64; set++) {
            if (Integer.bitCount(set) > 4) continue;
            // each call is worth as much as its bit; in whichever order, so the least one first
            now("set " + set, x, 0, 0, 0, set, set, 1, Integer.numberOfTrailingZeros(set));
        }
    }

    private static void fiveLeft() {
        CarryUp x = sixEasyCalls();
        for (int set = -3; set < 70; set++) {
            if (set >= 0 && Integer.bitCount(set) <= 4 && set < 64) continue;
            int asked = set;
            Check.refused(x, "value of set " + set, () -> x.value(0, 0, 0, asked, 0), OUTSIDE);
            Check.refused(x, "next of set " + set, () -> x.next(0, 0, 0, asked), CarryUp.OUTSIDE);
        }
    }

    // ---- places and minutes

    private static void eachPlace() {
        CarryUp x = Check.told("call 0 3 0 500 7 5 0;sort 0 1 0 none;way 0 3 1;way 1 3 2;way 2 3 3;way 4 3 5;way 5 3 6");
        int[] ways = {1, 2, 3, 0, 5, 6};
        for (int place = 0; place < 6; place++) {
            now("in time from " + place, x, place, 500 - ways[place], 0, 1, 7, 1, 0);
            now("late from " + place, x, place, 501 - ways[place], 0, 1, 0, 1, CarryUp.NONE);
        }
        for (int place : new int[] {Integer.MIN_VALUE, -1, 6, Integer.MAX_VALUE}) {
            Check.refused(x, "value at place " + place, () -> x.value(place, 0, 0, 1, 0), UNKNOWN);
            Check.refused(x, "next at place " + place, () -> x.next(place, 0, 0, 1), CarryUp.UNKNOWN);
        }
    }

    private static void theFirstAndTheLastMinute() {
        CarryUp x = Check.told("way 0 1 0;call 0 1 0 0 7 5 0;sort 0 1 0 none;call 1 1 1439 1439 9 5 0;sort 1 1 0 none");
        now("the first minute", x, 0, 0, 0, 3, 16, 1, 0);
        now("the second one", x, 0, 1, 0, 3, 9, 1, 1);
        now("the last one", x, 0, 1439, 0, 3, 9, 1, 1);
        Check.tell(x, "way 0 1 1");
        now("the first minute, a minute away", x, 0, 0, 0, 3, 9, 1, 1);
        now("the last minute, a minute away", x, 0, 1439, 0, 3, 0, 1, CarryUp.NONE);
        for (int minute : new int[] {Integer.MIN_VALUE, -1, 1440, Integer.MAX_VALUE}) {
            Check.refused(x, "value in minute " + minute, () -> x.value(0, minute, 0, 3, 0), OUTSIDE);
            Check.refused(x, "next in minute " + minute, () -> x.next(0, minute, 0, 3), CarryUp.OUTSIDE);
        }
    }

    private static void shutsToTheMinute() {
        for (int minutes = 9; minutes <= 11; minutes++) {
            CarryUp x = Check.told("call 0 1 0 490 20 9 0;sort 0 1 " + minutes + " none;call 1 2 0 510 7 5 0;sort 1 1 0 none");
            now("1 behind " + minutes + " minutes", x, 0, 480, 0, 3, minutes > 10 ? 20 : 27, 1, 0);
            CarryUp y = Check.told("call 0 1 0 490 20 5 " + minutes + ";sort 0 1 0 a;sort 0 1 0 none;call 1 2 0 510 7 5 0;sort 1 1 20 none");
            // a half is done, and then 1 too; a half is looked at, and then 1 only if the look was short
            now("1 behind a look of " + minutes, y, 0, 480, 0, 3, minutes > 10 ? 11 : 29, minutes > 10 ? 1 : 2, 0);
        }
    }

    private static void waitsTillItOpens() {
        for (int opens = 499; opens <= 501; opens++) {
            CarryUp x = Check.told("call 0 1 " + opens + " 1439 20 9 0;sort 0 1 0 none;call 1 1 0 500 7 5 0;sort 1 1 11 none");
            // 1 first keeps him till 501; 0 first till it opens
            now("0 opens at " + opens, x, 0, 480, 0, 3, 27, 1, opens <= 500 ? 0 : 1);
            CarryUp y = Check.told("call 0 1 " + opens + " 501 20 9 0;sort 0 1 0 none;call 1 1 0 500 7 5 0;sort 1 1 12 none");
            now("1 too long, 0 opens at " + opens, y, 0, 480, 0, 3, opens <= 500 ? 27 : 20, 1, 0);
        }
    }

    /** By way of the place of 1, which has shut, he is in time for 0: it costs AGAIN, and he is not there twice. */
    private static void lateOnHisWay() {
        for (int again = 19; again <= 21; again++) {
            CarryUp x = Check.told("way 0 1 100;way 0 2 4;way 2 1 6;call 0 1 0 510 20 9 0;sort 0 3 0 none;call 1 2 0 400 99 " + again + " 0;sort 1 7 0 none");
            now("late, again for " + again, x, 0, 500, 0, 3, again < 20 ? 1 : 0, 1, again < 20 ? 1 : CarryUp.NONE);
            now("late for both", x, 0, 501, 0, 3, 0, 1, CarryUp.NONE);
            now("straight", x, 0, 410, 0, 3, 20, 1, 0);
        }
    }

    private static void nextByItself() {
        CarryUp x = sixEasyCalls();
        Check.due("next, none asked ahead", x.next(0, 0, 0, 60), 2);
        Check.due("next, another one asked ahead", x.next(0, 0, 0, 32), 5);
        Check.due("next of none", x.next(0, 0, 0, 0), CarryUp.NONE);
    }

    // ---- to go or to end

    private static void toEndBringsAsMuch() {
        for (int again = 8; again <= 10; again++) {
            CarryUp x = Check.told("call 3 1 0 1439 9 " + again + " 0;sort 3 1 0 a;sort 3 1 0 b");
            int more = 9 - again;
            now("a, again for " + again, x, 0, 480, 1, 8, Math.max(more, 0), more > 0 ? 2 : 1, more > 0 ? 3 : CarryUp.NONE);
        }
        CarryUp x = Check.told("call 0 1 0 1439 0 0 0;sort 0 1 0 none");
        now("nothing to win and nothing to lose", x, 0, 0, 0, 1, 0, 1, CarryUp.NONE);
        Check.tell(x, "call 0 1 0 1439 0 99 0;sort 0 1 0 a");
        now("only to lose", x, 0, 0, 0, 1, 0, 1, CarryUp.NONE);
    }

    private static void theLeastOfEquals() {
        CarryUp x = new CarryUp();
        for (int c = 5; c >= 0; c--) Check.tell(x, "call " + c + " 1 0 490 5 5 0;sort " + c + " " + (6 - c) + " 1 none");
        // behind any of them it is too late for the others
        now("two", x, 0, 480, 0, 48, 5, 1, 4);
        now("four", x, 0, 480, 0, 58, 5, 1, 1);
        Check.tell(x, "call 5 1 0 490 6 5 0;sort 5 1 1 none");
        now("the last one is worth more", x, 0, 480, 0, 58, 6, 1, 5);
    }

    private static void partsAreUsedUp() {
        CarryUp x = Check.told("call 0 1 0 1439 7 9 0;sort 0 1 0 a;call 1 1 0 1439 8 9 0;sort 1 1 0 none or ab");
        now("a: one of both", x, 0, 0, 1, 3, 8, 1, 1);
        now("a, b: 1 would use a, so 0 first", x, 0, 0, 3, 3, 15, 1, 0);
        now("b", x, 0, 0, 2, 3, 8, 1, 1);
        Check.tell(x, "thing a 1 0 tool");
        now("a is a tool", x, 0, 0, 1, 3, 15, 1, 0);
    }

    private static void homeIsNoWayOut() {
        // by home it would be shorter, and the bag would be filled
        CarryUp x = Check.told("way 1 2 100;call 0 1 0 500 7 9 0;sort 0 1 0 a;call 1 2 0 520 7 9 0;sort 1 1 0 a");
        now("a once", x, 0, 480, 1, 3, 7, 1, 0);
        Check.tell(x, "thing a 1 0 tool");
        now("not by home", x, 0, 480, 1, 3, 7, 1, 0);
        Check.tell(x, "way 1 2 30");
        now("there as it shuts", x, 0, 480, 1, 3, 14, 1, 0);
    }

    private static void aCallOnce() {
        CarryUp x = Check.told("call 0 1 0 1439 9 1 5;sort 0 1 0 a;sort 0 1 0 none");
        now("what was not done is not left", x, 0, 0, 0, 1, 4, 1, 0);
        now("what was done is not left", x, 0, 0, 1, 1, 9, 1, 0);
    }

    private static void theDaysBeginIsNothingToIt() {
        CarryUp x = Check.told("begin 1439;load 0;purse 0;thing a 1 1 part;call 0 1 0 500 9 1 5;sort 0 1 0 a");
        now("the minute told, and the bag told", x, 0, 490, 1, 1, 9, 1, 0);
    }

    private static void inLowestTerms() {
        CarryUp x = Check.told("call 0 1 0 1439 6 3 0;sort 0 4 0 a;sort 0 2 0 b;call 1 1 0 1439 20 1 0;sort 1 20 0 c;sort 1 20 0 d;sort 1 20 0 e;sort 1 20 0 f");
        now("a third is lost", x, 0, 0, 1, 1, 3, 1, 0);
        now("a quarter", x, 0, 0, 4, 2, 17, 4, 1);
        now("both", x, 0, 0, 5, 3, 29, 4, 0);
        Check.tell(x, "call 0 1 0 1439 99 99 0;sort 0 20 0 a;sort 0 19 0 b");
        now("a hair", x, 0, 0, 1, 1, 33, 13, 0);
    }

    // ---- what is refused

    private static void callsWithoutSorts() {
        CarryUp x = Check.told("call 0 1 0 1439 9 1 5;sort 0 1 0 none;call 5 1 0 1439 9 1 5");
        for (int set = 0; set < 64; set++) {
            if (set < 2) continue;
            int asked = set;
            Check.refused(x, "value of set " + set, () -> x.value(0, 0, 0, asked, 0), UNKNOWN);
            Check.refused(x, "next of set " + set, () -> x.next(0, 0, 0, asked), CarryUp.UNKNOWN);
        }
    }

    private static void refusedInTheirOrder() {
        CarryUp x = sixEasyCalls();
        Check.refused(x, "place ahead of set", () -> x.value(6, -1, -1, 64, 2), UNKNOWN);
        Check.refused(x, "set ahead of minute", () -> x.value(0, -1, -1, 64, 2), OUTSIDE);
        Check.refused(x, "more than four", () -> x.value(0, 0, 0, 31, 0), OUTSIDE);
        Check.tell(x, "call 0 1 0 0 0 0 0");
        Check.refused(x, "a call of it ahead of more than four", () -> x.value(0, 0, 0, 31, 0), UNKNOWN);
        Check.refused(x, "a call of it ahead of minute, bag, part", () -> x.value(0, 1440, 256, 1, 2), UNKNOWN);
        Check.refused(x, "set ahead of a call of it", () -> x.value(0, 0, 0, 65, 0), OUTSIDE);
        Check.refused(x, "next: place ahead of set", () -> x.next(-1, 0, 0, -1), CarryUp.UNKNOWN);
        Check.refused(x, "next: set ahead of a call of it", () -> x.next(0, 0, 0, 127), CarryUp.OUTSIDE);
        Check.refused(x, "next: a call of it ahead of bag", () -> x.next(0, 0, 256, 1), CarryUp.UNKNOWN);
        Check.refused(x, "next: bag", () -> x.next(0, 0, 256, 2), CarryUp.OUTSIDE);
    }
}
