/** Promises 13 to 15, 18, 19: ROWS of one and of six, hours to the minute, means below nothing, knowing what is known, BOTH of just enough CALLS. */
public final class RowEdgesTest {
    private static final long UNKNOWN = CarryUp.LEAST + 2, OUTSIDE = CarryUp.LEAST + 3;

    public static void main(String[] args) {
        rowsOfOneToSix();
        sixCalls();
        aCallTwice();
        whatIsBeyondN();
        stopsThatAreNoCalls();
        shutsToTheMinute();
        opensToTheMinute();
        opensAndShutsAtOnce();
        lateBehindAnotherCall();
        lateBehindALook();
        lateCostsAgainAndNoMinutes();
        afterMidnight();
        homeIsAWay();
        homeFillsWithWhatItWasTold();
        meansBelowNothing();
        meansOfNothing();
        allOfNoneAndAll();
        theBagNeedNotBeOneThatMayBe();
        theGreatestScale();
        endIsTheLatest();
        endOfEndings();
        knowNothingNew();
        knowIsNeverLess();
        knowRefused();
        bothOfJustEnoughCalls();
        bothOfBounds();
        bothFirstRow();
        bothLeastBag();
        Check.end();
    }

    private static void mean(String what, CarryUp x, int bag, int row, int n, long above, long below) {
        Check.due("mean of " + what, x.mean(bag, row, n, 0), above);
        Check.due("mean of " + what + ", below", x.mean(bag, row, n, 1), below);
    }

    private static void all(String what, CarryUp x, int bag, int row, int n, long above, long below) {
        Check.due("all of " + what, x.all(bag, row, n, 0), above);
        Check.due("all of " + what + ", below", x.all(bag, row, n, 1), below);
    }

    /** Six CALLS at the places 1 to 5 and 1 again, WORTH 1, 2, 4 .. 32, that want nothing. */
    private static CarryUp sixEasyCalls() {
        CarryUp x = new CarryUp();
        for (int c = 0; c < 6; c++) {
            Check.tell(x, "call " + c + " " + (c % 5 + 1) + " 0 1439 " + (1 << c) + " " + (1 << c) + " 0;sort " + c + " 1 1 none");
        }
        return x;
    }

    // ---- which ROWS there are

    private static void rowsOfOneToSix() {
        CarryUp x = sixEasyCalls();
        int row = 0;
        for (int n = 1; n <= 6; n++) {
            row |= n - 1 << 4 * (n - 1);
            mean(n + " calls", x, 0, row, n, (1 << n) - 1, 1);
            all(n + " calls", x, 0, row, n, 1, 1);
            Check.due("end of " + n + " calls", x.end(0, row, n), 480 + 11 * n);
            Check.due("best of " + n + " calls", x.best(row, n), 0);
            mean("home " + n + " times", x, 0, 0x666666, n, 0, 1);
            Check.due("end of home " + n + " times", x.end(0, 0x666666, n), 480);
        }
        for (int n : new int[] {Integer.MIN_VALUE, -1, 0, 7, 8, Integer.MAX_VALUE}) {
            int row6 = row;
            Check.refused(x, "mean of n " + n, () -> x.mean(0, row6, n, 0), OUTSIDE);
            Check.refused(x, "all of n " + n, () -> x.all(0, row6, n, 0), CarryUp.OUTSIDE);
            Check.refused(x, "end of n " + n, () -> x.end(0, row6, n), CarryUp.OUTSIDE);
            Check.refused(x, "best of n " + n, () -> x.best(row6, n), CarryUp.OUTSIDE);
            Check.refused(x, "sure of n " + n, () -> x.sure(row6, n, 0, 1), CarryUp.OUTSIDE);
            Check.refused(x, "know of n " + n, () -> x.know(row6, n, 0, 0), OUTSIDE);
            Check.refused(x, "run of n " + n, () -> x.run(0, 0, row6, n, 0), CarryUp.OUTSIDE);
        }
    }

    private static void sixCalls() {
        CarryUp x = sixEasyCalls();
        Check.tell(x, "call 5 5 0 544 32 31 0;sort 5 1 0 none");
        mean("the sixth in time", x, 0, 0x543210, 6, 31 + 32, 1);
        Check.tell(x, "begin 481");
        // 0 to 4: 481 and 55 minutes, 5 is where 4 is: no way
        mean("the sixth in time, at its own place", x, 0, 0x543210, 6, 31 + 32, 1);
        Check.tell(x, "begin 490");
        mean("the sixth a minute late", x, 0, 0x543210, 6, 31 - 31, 1);
        all("the sixth a minute late", x, 0, 0x543210, 6, 0, 1);
        Check.tell(x, "begin 489");
        all("the sixth as it shuts", x, 0, 0x543210, 6, 1, 1);
    }

    private static void aCallTwice() {
        CarryUp x = sixEasyCalls();
        int[][] twice = {{0x00, 2}, {0x55, 2}, {0x060, 3}, {0x110, 3}, {0x343210, 6}, {0x101235, 6}, {0x566665, 6}};
        for (int[] row : twice) {
            String what = Integer.toHexString(row[0]) + " of " + row[1];
            Check.refused(x, "mean " + what, () -> x.mean(0, row[0], row[1], 0), OUTSIDE);
            Check.refused(x, "all " + what, () -> x.all(0, row[0], row[1], 0), CarryUp.OUTSIDE);
            Check.refused(x, "end " + what, () -> x.end(0, row[0], row[1]), CarryUp.OUTSIDE);
            Check.refused(x, "best " + what, () -> x.best(row[0], row[1]), CarryUp.OUTSIDE);
            Check.refused(x, "sure " + what, () -> x.sure(row[0], row[1], 0, 1), CarryUp.OUTSIDE);
            Check.refused(x, "know " + what, () -> x.know(row[0], row[1], row[0] & 15, 0), OUTSIDE);
            Check.refused(x, "run " + what, () -> x.run(0, 0, row[0], row[1], 0), CarryUp.OUTSIDE);
            all(what + ", but for the last", x, 0, row[0], row[1] - 1, 1, 1);
        }
        Check.refused(x, "the first two alike", () -> x.end(0, 0x321055, 6), CarryUp.OUTSIDE);
    }

    private static void whatIsBeyondN() {
        CarryUp x = sixEasyCalls();
        for (int n = 1; n <= 6; n++) {
            int beyond = -1 << 4 * n;
            mean("what is beyond " + n, x, 0, 0x543210 & ~beyond | beyond, n, (1 << n) - 1, 1);
        }
        mean("the sign", x, 0, 0x80543210, 6, 63, 1);
        Check.refused(x, "a row of 15", () -> x.mean(0, -1, 1, 0), UNKNOWN);
    }

    private static void stopsThatAreNoCalls() {
        CarryUp x = Check.told("call 0 1 0 1439 1 1 1;sort 0 1 1 none;call 5 1 0 1439 1 1 1;call 4 1 0 1439 1 1 1;sort 4 1 1 none");
        for (int stop = 0; stop < 16; stop++) {
            int row = stop << 20 | 0x66666;
            if (stop == 0 || stop == 4 || stop == 6) Check.due("stop " + stop, x.end(0, row, 6), stop == 6 ? 480 : 491);
            else Check.refused(x, "stop " + stop, () -> x.end(0, row, 6), CarryUp.UNKNOWN);
        }
    }

    // ---- hours

    private static void shutsToTheMinute() {
        for (int begin = 489; begin <= 492; begin++) {
            CarryUp x = Check.told("begin " + begin + ";call 0 1 0 500 7 5 3;sort 0 1 4 none");
            boolean late = begin + 10 > 500;
            mean("coming at " + (begin + 10), x, 0, 0, 1, late ? -5 : 7, 1);
            all("coming at " + (begin + 10), x, 0, 0, 1, late ? 0 : 1, 1);
            Check.due("end", x.end(0, 0, 1), begin + (late ? 10 : 14));
        }
    }

    private static void opensToTheMinute() {
        for (int begin = 488; begin <= 492; begin++) {
            CarryUp x = Check.told("begin " + begin + ";call 0 1 500 600 7 5 3;sort 0 1 4 a");
            Check.due("done, coming at " + (begin + 10), x.end(1, 0, 1), Math.max(begin + 10, 500) + 4);
            Check.due("looked at, coming at " + (begin + 10), x.end(0, 0, 1), Math.max(begin + 10, 500) + 3);
        }
    }

    private static void opensAndShutsAtOnce() {
        CarryUp x = Check.told("call 0 1 490 490 7 5 3;sort 0 1 200 none");
        mean("open for one minute", x, 0, 0, 1, 7, 1);
        Check.due("done behind it has shut", x.end(0, 0, 1), 690);
        Check.tell(x, "begin 481");
        mean("a minute behind", x, 0, 0, 1, -5, 1);
        Check.tell(x, "begin 0");
        mean("he waits for it", x, 0, 0, 1, 7, 1);
        Check.due("till then", x.end(0, 0, 1), 690);
        Check.tell(x, "call 0 1 0 0 7 5 3;sort 0 1 200 none;way 0 1 0");
        mean("the first minute of the day", x, 0, 0, 1, 7, 1);
        Check.tell(x, "way 0 1 1");
        mean("the second one", x, 0, 0, 1, -5, 1);
        Check.tell(x, "call 0 1 1439 1439 7 5 3;sort 0 1 200 none;begin 1438");
        mean("the last minute of the day", x, 0, 0, 1, 7, 1);
        Check.tell(x, "begin 1439");
        mean("behind the last one", x, 0, 0, 1, -5, 1);
    }

    private static void lateBehindAnotherCall() {
        for (int minutes = 9; minutes <= 11; minutes++) {
            CarryUp x = Check.told("call 0 1 0 1439 1 1 0;sort 0 1 " + minutes + " none;call 1 2 0 510 7 5 0;sort 1 1 0 none");
            mean("behind " + minutes + " minutes", x, 0, 0x10, 2, minutes > 10 ? -4 : 8, 1);
            mean("the other way round", x, 0, 0x01, 2, 8, 1);
        }
    }

    private static void lateBehindALook() {
        for (int look = 9; look <= 11; look++) {
            CarryUp x = Check.told("call 0 1 0 1439 1 1 " + look + ";sort 0 1 200 a;call 1 2 0 510 7 5 0;sort 1 1 0 none");
            mean("behind a look of " + look, x, 0, 0x10, 2, look > 10 ? -6 : 6, 1);
        }
    }

    private static void lateCostsAgainAndNoMinutes() {
        CarryUp x = Check.told("begin 500;way 0 1 20;way 1 2 30;call 0 1 0 500 99 9 99;sort 0 1 200 none;call 1 2 0 550 10 1 0;sort 1 1 0 none");
        mean("late, and there as the next one shuts", x, 0, 0x10, 2, 1, 1);
        Check.due("by way of the one he was late for", x.end(0, 0x10, 2), 550);
        Check.tell(x, "begin 501");
        mean("late for both", x, 0, 0x10, 2, -10, 1);
        Check.due("both ways went by", x.end(0, 0x10, 2), 551);
        Check.due("and the way home", x.end(0, 0x610, 3), 561);
    }

    private static void afterMidnight() {
        CarryUp x = Check.told("begin 1439;way 0 5 200;call 0 5 0 1439 7 5 99;sort 0 1 200 none;call 1 5 1439 1439 7 5 99;sort 1 1 200 none");
        mean("the day behind is not waited for", x, 0, 0, 1, -5, 1);
        Check.due("the minutes go on", x.end(0, 0, 1), 1639);
        Check.due("and on the way home", x.end(0, 0x60, 2), 1839);
        Check.tell(x, "way 0 5 0");
        mean("a call as the day ends", x, 0, 1, 1, 7, 1);
        Check.due("done behind midnight", x.end(0, 1, 1), 1639);
        mean("the other one behind it", x, 0, 0x01, 2, 2, 1);
        Check.due("its minutes do not go by", x.end(0, 0x01, 2), 1639);
    }

    // ---- HOME

    private static void homeIsAWay() {
        CarryUp x = Check.told("way 0 1 7;way 0 2 11;way 1 2 100;call 0 1 0 1439 1 1 0;sort 0 1 0 none;call 1 2 0 1439 1 1 0;sort 1 1 0 none");
        Check.due("straight", x.end(0, 0x10, 2), 480 + 107);
        Check.due("by home", x.end(0, 0x160, 3), 480 + 7 + 7 + 11);
        Check.due("by home, and home", x.end(0, 0x6160, 4), 480 + 7 + 7 + 11 + 11);
        Check.due("home first", x.end(0, 0x06, 2), 487);
        Check.due("home twice", x.end(0, 0x660, 3), 494);
    }

    private static void homeFillsWithWhatItWasTold() {
        CarryUp x = Check.told("call 0 1 0 1439 4 1 0;sort 0 1 0 a;call 1 1 0 1439 4 1 0;sort 1 1 0 a;call 2 1 0 1439 4 1 0;sort 2 1 0 b");
        mean("a once", x, 1, 0x10, 2, 3, 1);
        mean("a anew", x, 1, 0x160, 3, 8, 1);
        mean("home first fills nothing more", x, 1, 0x106, 3, 3, 1);
        mean("home last fills nothing more", x, 1, 0x610, 3, 3, 1);
        mean("no b at home", x, 1, 0x260, 3, 3, 1);
        mean("b was told", x, 3, 0x260, 3, 8, 1);
        all("a anew", x, 1, 0x160, 3, 1, 1);
        all("no b at home", x, 1, 0x260, 3, 0, 1);
    }

    // ---- promises 13, 14: mean, all

    private static void meansBelowNothing() {
        CarryUp x = Check.told("call 0 1 0 1439 3 99 0;sort 0 4 0 a;sort 0 2 0 b");
        mean("a third is not done", x, 1, 0, 1, -31, 1);
        mean("two thirds are not done", x, 2, 0, 1, -65, 1);
        mean("nothing is done", x, 0, 0, 1, -99, 1);
        Check.tell(x, "call 0 1 0 1439 0 1 0;sort 0 4 0 a;sort 0 2 0 b");
        mean("in lowest terms, the upper one below nothing", x, 1, 0, 1, -1, 3);
        mean("in lowest terms", x, 2, 0, 1, -2, 3);
        Check.tell(x, "call 0 1 0 1439 99 99 0;sort 0 1 0 a;sort 0 20 0 b");
        mean("no common part", x, 1, 0, 1, -99 * 19 / 3, 7);
    }

    private static void meansOfNothing() {
        CarryUp x = Check.told("call 0 1 0 1439 2 1 0;sort 0 5 0 a;sort 0 10 0 b;call 1 1 0 1439 0 0 0;sort 1 7 0 c;sort 1 6 0 d");
        mean("as much as it costs", x, 1, 0, 1, 0, 1);
        mean("nothing to win or to lose", x, 4, 1, 1, 0, 1);
        mean("both", x, 5, 0x10, 2, 0, 1);
        all("both", x, 5, 0x10, 2, 7, 39);
        mean("home", x, 0, 6, 1, 0, 1);
    }

    private static void allOfNoneAndAll() {
        CarryUp x = Check.told("call 0 1 0 1439 2 1 0;sort 0 20 0 a;sort 0 20 0 b;sort 0 20 0 c;sort 0 20 0 d;call 1 1 0 1439 2 1 0;sort 1 20 0 none");
        all("nothing", x, 0, 0, 1, 0, 1);
        all("all", x, 15, 0, 1, 1, 1);
        all("a half", x, 3, 0, 1, 1, 2);
        all("nothing, and one that wants nothing", x, 0, 0x10, 2, 0, 1);
        all("three in four, and one that wants nothing", x, 7, 0x01, 2, 3, 4);
    }

    private static void theBagNeedNotBeOneThatMayBe() {
        CarryUp x = Check.told("load 0;purse 0;thing a 99 99 part;call 0 1 0 1439 9 1 0;sort 0 1 7 a");
        Check.due("it may not be", x.may(1), 0);
        mean("a", x, 1, 0, 1, 9, 1);
        all("a", x, 1, 0, 1, 1, 1);
        Check.due("end", x.end(1, 0, 1), 497);
        Check.due("chance", x.chance(1, 0, 0), 1);
        Check.due("does", x.does(1, 0, 0), 0);
        Check.due("run", x.run(0, 1, 0, 1, 0), 1009);
        Check.due("value", x.value(0, 480, 1, 1, 0), 9);
        Check.due("best", x.best(0, 1), 0);
        Check.due("sure", x.sure(0, 1, 1, 1), CarryUp.NONE);
    }

    private static void theGreatestScale() {
        CarryUp x = new CarryUp();
        for (int c = 0; c < 6; c++) {
            Check.tell(x, "call " + c + " 1 0 1439 99 99 0;sort " + c + " 20 0 a;sort " + c + " 20 0 a;sort " + c + " 20 0 a;sort " + c + " 19 0 b");
        }
        Check.tell(x, "thing a 1 0 tool;thing b 1 0 tool");
        all("19 of 79, six times", x, 2, 0x543210, 6, 19L * 19 * 19 * 19 * 19 * 19, 79L * 79 * 79 * 79 * 79 * 79);
        mean("19 of 79, six times", x, 2, 0x543210, 6, -6 * 99 * 41, 79);
        mean("60 of 79, six times", x, 1, 0x543210, 6, 6 * 99 * 41, 79);
        mean("the greatest one", x, 3, 0x543210, 6, 594, 1);
        mean("the least one", x, 0, 0x543210, 6, -594, 1);
        Check.tell(x, "thing b 1 0 part");
        all("b once", x, 3, 0x543210, 6, 60L * 60 * 60 * 60 * 60 * (60 + 6 * 19), 79L * 79 * 79 * 79 * 79 * 79);
    }

    // ---- promise 15: end

    private static void endIsTheLatest() {
        CarryUp x = Check.told("call 0 1 0 1439 1 1 50;sort 0 20 49 a;sort 0 1 51 b");
        Check.due("the rarest one is the latest", x.end(3, 0, 1), 541);
        Check.due("b is not there: he looks", x.end(1, 0, 1), 540);
        Check.tell(x, "call 0 1 0 1439 1 1 0;sort 0 1 200 a;sort 0 1 0 b");
        Check.due("200 minutes", x.end(1, 0, 1), 690);
        Check.due("none of a", x.end(2, 0, 1), 490);
        Check.tell(x, "call 0 1 0 1439 1 1 99;sort 0 1 7 a;sort 0 1 8 b");
        Check.due("a look that cannot be is no end", x.end(3, 0, 1), 498);
        Check.due("a look that can be is one", x.end(1, 0, 1), 589);
        Check.tell(x, "call 0 1 0 1439 1 1 0;sort 0 1 200 a;sort 0 1 0 b");
        // if 0 takes long, he is late for 1 and does not stay there
        Check.tell(x, "call 1 1 0 500 1 1 99;sort 1 1 200 none");
        Check.due("the short one is the latest in the end", x.end(3, 0x10, 2), 690);
        Check.tell(x, "call 0 1 0 1439 1 1 0;sort 0 1 11 a;sort 0 1 10 b");
        Check.due("late behind the long one, as late as can be behind the short one", x.end(3, 0x10, 2), 700);
    }

    private static void endOfEndings() {
        CarryUp x = new CarryUp();
        for (int c = 0; c < 6; c++) Check.tell(x, "way " + (c + 5) % 6 + " " + c + " 200;call " + c + " " + (c % 5 + 1) + " 1439 1439 1 1 99;sort " + c + " 1 200 none");
        Check.tell(x, "begin 1239");
        Check.due("the first in the last minute, late for all others", x.end(0, 0x43210, 5), 1239 + 200 + 200 + 4 * 200);
        Check.due("at home at the end", x.end(0, 0x643210, 6), 1239 + 200 + 200 + 4 * 200 + 200);
        Check.tell(x, "begin 0");
        Check.due("the first minute", x.end(0, 0x66, 2), 0);
        Check.tell(x, "begin 1439");
        Check.due("the last minute", x.end(0, 0x66, 2), 1439);
    }

    // ---- promise 18: know

    private static void knowNothingNew() {
        CarryUp x = Check.told("call 0 1 0 1439 9 1 0;sort 0 1 0 a;sort 0 1 0 b;call 1 1 0 480 9 9 0;sort 1 1 0 a;sort 1 1 0 b;call 2 1 0 1439 9 1 0;sort 2 3 0 c");
        for (int part = 0; part < 2; part++) {
            Check.due("all can be carried", x.know(0, 1, 0, part), part);
            Check.due("late for it", x.know(1, 1, 1, part), part);
            Check.due("one sort alone", x.know(2, 1, 2, part), part);
        }
        Check.tell(x, "load 0");
        Check.due("nothing can be carried", x.know(0, 1, 0, 0), 0);
        Check.tell(x, "load 1");
        Check.due("one of both", x.know(0, 1, 0, 0), 5);
        Check.due("one of both", x.know(0, 1, 0, 1), 1);
        Check.due("with others ahead and behind", x.know(0x60166, 5, 0, 0), 5);
    }

    private static void knowIsNeverLess() {
        CarryUp x = Check.told("load 1;call 0 1 0 1439 9 2 0;sort 0 20 0 a;sort 0 20 0 b;sort 0 20 0 c;sort 0 19 0 d");
        // known: 9; best: 20 of 79 done, 9, else -2: (180 - 118) of 79
        Check.due("the least likely one too", x.know(0, 1, 0, 0), 9 * 79 - 62);
        Check.due("by likely of all", x.know(0, 1, 0, 1), 79);
        Check.tell(x, "call 0 1 0 1439 9 2 0;sort 0 20 0 a;sort 0 1 0 cd");
        // known: 20 of 21 9, 1 of 21 -2; best: the same
        Check.due("what cannot be done in any case", x.know(0, 1, 0, 0), 0);
    }

    private static void knowRefused() {
        CarryUp x = sixEasyCalls();
        Check.tell(x, "call 5 1 0 0 0 0 0");
        Check.refused(x, "n 0 ahead of all", () -> x.know(7, 0, 9, 9), OUTSIDE);
        Check.refused(x, "n 7 ahead of all", () -> x.know(7, 7, 9, 9), OUTSIDE);
        Check.refused(x, "a call of the row", () -> x.know(0x70, 2, 0, 0), UNKNOWN);
        Check.refused(x, "a call of the row that has no sort", () -> x.know(5, 1, 5, 0), UNKNOWN);
        Check.refused(x, "not in the row", () -> x.know(0x10, 2, 2, 0), UNKNOWN);
        Check.refused(x, "behind n", () -> x.know(0x210, 2, 2, 0), UNKNOWN);
        Check.refused(x, "home", () -> x.know(0x60, 2, 6, 0), UNKNOWN);
        Check.refused(x, "no such call", () -> x.know(0, 1, -1, 0), UNKNOWN);
        Check.refused(x, "no such call in 16", () -> x.know(0, 1, 16, 0), UNKNOWN);
        Check.refused(x, "not in a row with a call twice", () -> x.know(0, 2, 1, 2), UNKNOWN);
        Check.refused(x, "a call twice", () -> x.know(0, 2, 0, 0), OUTSIDE);
        Check.refused(x, "part 2", () -> x.know(0, 1, 0, 2), OUTSIDE);
        Check.refused(x, "part -1", () -> x.know(0, 1, 0, -1), OUTSIDE);
    }

    // ---- promise 19: both

    private static void bothOfJustEnoughCalls() {
        CarryUp x = Check.told("call 5 1 0 1439 9 1 0;call 4 1 0 1439 9 1 0");
        for (int n = 1; n <= 3; n++) Check.due("calls without sorts, " + n, x.both(n, 0), CarryUp.NONE);
        for (int told = 1; told <= 3; told++) {
            int least = 6 - told;
            Check.tell(x, "call " + least + " 1 0 1439 9 1 0;sort " + least + " 1 0 " + (char) ('a' + least));
            int row = 0, bag = 0;
            for (int n = 1; n <= 3; n++) {
                row |= least + n - 1 << 4 * (n - 1);
                bag |= 1 << least + n - 1;
                Check.due(n + " of " + told + " calls", x.both(n, 0), n <= told ? row : CarryUp.NONE);
                Check.due(n + " of " + told + " calls, the bag", x.both(n, 1), n <= told ? bag : CarryUp.NONE);
            }
        }
    }

    private static void bothOfBounds() {
        CarryUp x = sixEasyCalls();
        for (int n : new int[] {Integer.MIN_VALUE, -1, 0, 4, 5, 6, Integer.MAX_VALUE}) {
            Check.refused(x, "both of " + n, () -> x.both(n, 0), CarryUp.OUTSIDE);
        }
        for (int what : new int[] {Integer.MIN_VALUE, -1, 2, Integer.MAX_VALUE}) {
            Check.refused(x, "both of what " + what, () -> x.both(1, what), CarryUp.OUTSIDE);
        }
        Check.due("one", x.both(1, 0), 5);
        Check.due("two, the first row of both", x.both(2, 0), 0x54);
        Check.due("three", x.both(3, 0), 0x543);
        CarryUp none = new CarryUp();
        Check.refused(none, "OUTSIDE ahead of none", () -> none.both(0, 0), CarryUp.OUTSIDE);
        Check.refused(none, "OUTSIDE ahead of none", () -> none.both(3, 2), CarryUp.OUTSIDE);
    }

    private static void bothFirstRow() {
        CarryUp x = new CarryUp();
        for (int c = 0; c < 6; c++) Check.tell(x, "call " + c + " 1 0 1439 5 5 0;sort " + c + " " + (c + 1) + " 0 none");
        Check.due("of six equal ones", x.both(1, 0), 0);
        Check.due("of thirty equal ones", x.both(2, 0), 0x10);
        Check.due("of 120 equal ones", x.both(3, 0), 0x210);
        // behind 0 and 1 one is late: all rows of two bring the same, but for those in which both are in time
        Check.tell(x, "call 0 1 0 490 5 5 0;sort 0 1 5 none;call 1 1 0 490 5 5 0;sort 1 1 0 none");
        Check.due("0 behind 1 can be done", x.both(2, 0), 0x20);
        Check.tell(x, "call 0 1 0 490 5 5 0;sort 0 1 5 none;call 1 1 0 490 6 5 0;sort 1 1 0 none");
        Check.due("1, then 0", x.both(2, 0), 0x01);
        Check.tell(x, "call 0 1 0 490 0 5 0;sort 0 1 5 none;call 1 1 0 490 0 5 0;sort 1 1 0 none");
        Check.due("without both", x.both(3, 0), 0x432);
    }

    private static void bothLeastBag() {
        CarryUp x = Check.told("call 2 1 0 1439 5 5 0;sort 2 1 0 none or fh;call 3 1 0 1439 5 5 0;sort 3 1 0 none or eh");
        Check.due("the first row, then the least bag", x.both(1, 0), 2);
        Check.due("f for the first row, though e would be less for the other one", x.both(1, 1), 32);
        Check.due("both", x.both(2, 1), 48);
        Check.tell(x, "load 0");
        Check.due("none can be done", x.both(2, 0), 0x32);
        Check.due("nothing in the bag", x.both(2, 1), 0);
    }
}
