/** Promises 10 to 12, 16, 17: what a BAG lacks by one THING, CHANCES of none and of all, a in b to the last hair, no BAG at all. */
public final class BagEdgesTest {
    public static void main(String[] args) {
        aSortThatWantsNothing();
        aSortThatWantsAll();
        aSortThatWantsOneOfAll();
        oneIsThereBeforeAllIsUsed();
        theLeastOfOneIsATool();
        toolsAlone();
        everyBag();
        chanceOfNoneAndAll();
        chanceInLowestTerms();
        theLeastAndTheMostLikely();
        bestIsTheLeastOfEquals();
        bestAmongThoseThatMayBe();
        bestThatLoses();
        sureToTheLastHair();
        sureOfNothingAndOfAll();
        sureBoundsOfAAndB();
        sureLeastWeight();
        sureNone();
        sureNeverLate();
        Check.end();
    }

    // ---- promise 11: does

    private static void aSortThatWantsNothing() {
        CarryUp x = Check.told("call 0 1 0 0 0 0 0;sort 0 1 0 none");
        for (int bag : new int[] {0, 1, 128, 255}) Check.due("wants nothing", x.does(bag, 0, 0), bag);
    }

    private static void aSortThatWantsAll() {
        CarryUp x = Check.told("call 0 1 0 0 0 0 0;sort 0 1 0 abcdefgh");
        Check.due("all there", x.does(255, 0, 0), 0);
        for (int t = 0; t < 8; t++) Check.due("all but one", x.does(255 - (1 << t), 0, 0), CarryUp.NONE);
        Check.due("nothing there", x.does(0, 0, 0), CarryUp.NONE);
    }

    private static void aSortThatWantsOneOfAll() {
        CarryUp x = Check.told("call 0 1 0 0 0 0 0;sort 0 1 0 none or hgfedcba");
        Check.due("nothing there", x.does(0, 0, 0), CarryUp.NONE);
        for (int t = 0; t < 8; t++) {
            Check.due("one there", x.does(1 << t, 0, 0), 0);
            Check.due("the least of those from it on", x.does(255 << t & 255, 0, 0), 255 << t + 1 & 255);
        }
    }

    private static void oneIsThereBeforeAllIsUsed() {
        CarryUp x = Check.told("call 0 1 0 0 0 0 0;sort 0 1 0 a or ab;sort 0 1 0 b or ab;sort 0 1 0 ab or ab;sort 0 1 0 b or a");
        Check.due("a is all and one: once", x.does(3, 0, 0), 2);
        Check.due("a alone is all and one", x.does(1, 0, 0), 0);
        Check.due("b is all, a is one", x.does(3, 0, 1), 0);
        Check.due("b is all and, a is not there, one", x.does(2, 0, 1), 0);
        Check.due("both are all", x.does(7, 0, 2), 4);
        Check.due("b, and no a", x.does(2, 0, 3), CarryUp.NONE);
        Check.due("a, and no b", x.does(1, 0, 3), CarryUp.NONE);
    }

    private static void theLeastOfOneIsATool() {
        CarryUp x = Check.told("thing a 1 0 tool;call 0 1 0 0 0 0 0;sort 0 1 0 none or ab;sort 0 1 0 b or ab;sort 0 1 0 a or b");
        Check.due("the tool, no part is used", x.does(3, 0, 0), 3);
        Check.due("the part, if the tool is not there", x.does(2, 0, 0), 0);
        Check.due("the part is all, the tool is one", x.does(3, 0, 1), 1);
        Check.due("the tool is all, the part is one", x.does(3, 0, 2), 1);
        Check.tell(x, "thing a 1 0 part;thing b 1 0 tool");
        Check.due("the part is the least, though a tool is there", x.does(3, 0, 0), 2);
    }

    private static void toolsAlone() {
        CarryUp x = new CarryUp();
        for (char c = 'a'; c <= 'h'; c++) Check.tell(x, "thing " + c + " 1 0 tool");
        Check.tell(x, "call 0 1 0 0 0 0 0;sort 0 1 0 abcdefgh or abcdefgh");
        Check.due("tools are not used up", x.does(255, 0, 0), 255);
        for (int t = 0; t < 8; t++) {
            Check.tell(x, "thing " + (char) ('a' + t) + " 1 0 part");
            Check.due("parts are", x.does(255, 0, 0), 255 << t + 1 & 255);
        }
    }

    private static void everyBag() {
        CarryUp x = Check.told("thing b 1 0 tool;thing g 1 0 tool;call 0 1 0 0 0 0 0;sort 0 1 0 ab or fgh");
        for (int bag = 0; bag < 256; bag++) {
            int one = (bag & 32) != 0 ? 32 : (bag & 64) != 0 ? 0 : 128;
            boolean done = (bag & 3) == 3 && (bag & 224) != 0;
            Check.due("bag " + bag, x.does(bag, 0, 0), done ? bag & ~1 & ~one : CarryUp.NONE);
        }
        Check.refused(x, "bag -1", () -> x.does(-1, 0, 0), CarryUp.OUTSIDE);
        Check.refused(x, "bag 256", () -> x.does(256, 0, 0), CarryUp.OUTSIDE);
        Check.refused(x, "a sort more", () -> x.does(0, 0, 1), CarryUp.UNKNOWN);
    }

    // ---- promise 12: chance

    private static void chance(CarryUp x, int bag, int call, int above, int below) {
        Check.due("chance of " + bag + ", above", x.chance(bag, call, 0), above);
        Check.due("chance of " + bag + ", below", x.chance(bag, call, 1), below);
    }

    private static void chanceOfNoneAndAll() {
        CarryUp x = Check.told("call 0 1 0 0 0 0 0;sort 0 20 0 a;sort 0 20 0 b;sort 0 20 0 c;sort 0 20 0 d;call 5 1 0 0 0 0 0;sort 5 20 0 none");
        chance(x, 0, 0, 0, 1);
        chance(x, 240, 0, 0, 1);
        chance(x, 15, 0, 1, 1);
        chance(x, 255, 0, 1, 1);
        chance(x, 7, 0, 3, 4);
        chance(x, 0, 5, 1, 1);
    }

    private static void chanceInLowestTerms() {
        CarryUp x = Check.told("call 0 1 0 0 0 0 0;sort 0 6 0 a;sort 0 9 0 b;sort 0 3 0 c");
        chance(x, 1, 0, 1, 3);
        chance(x, 2, 0, 1, 2);
        chance(x, 4, 0, 1, 6);
        chance(x, 6, 0, 2, 3);
        chance(x, 3, 0, 5, 6);
        Check.tell(x, "sort 0 1 0 d");
        chance(x, 1, 0, 6, 19);
        chance(x, 8, 0, 1, 19);
        chance(x, 7, 0, 18, 19);
    }

    private static void theLeastAndTheMostLikely() {
        CarryUp x = Check.told("call 0 1 0 0 0 0 0;sort 0 1 0 a;sort 0 20 0 b;sort 0 20 0 c;sort 0 20 0 d");
        chance(x, 1, 0, 1, 61);
        chance(x, 14, 0, 60, 61);
        chance(x, 3, 0, 21, 61);
    }

    // ---- promise 16: best

    private static void bestIsTheLeastOfEquals() {
        CarryUp x = Check.told("call 0 1 0 1439 5 5 5;sort 0 1 0 none or h;sort 0 1 0 none or gh;sort 0 1 0 none");
        Check.due("h does for all", x.best(0, 1), 128);
        Check.tell(x, "call 0 1 0 1439 5 5 5;sort 0 1 0 none or gh;sort 0 1 0 none or hg");
        Check.due("the least of two", x.best(0, 1), 64);
        Check.tell(x, "thing g 40 0 part;thing h 1 0 part");
        Check.due("the least, though it is the heaviest", x.best(0, 1), 64);
        Check.tell(x, "call 0 1 0 1439 0 0 0;sort 0 1 0 a");
        Check.due("nothing to win: the empty one", x.best(0, 1), 0);
        Check.due("home alone: the empty one", x.best(0x666666, 6), 0);
    }

    private static void bestAmongThoseThatMayBe() {
        CarryUp x = Check.told("thing a 40 0 part;thing b 1 0 part;call 0 1 0 1439 5 5 5;sort 0 2 0 a;sort 0 1 0 b");
        Check.due("41 of 40", x.best(0, 1), 1);
        Check.tell(x, "load 41");
        Check.due("41 of 41", x.best(0, 1), 3);
        Check.tell(x, "thing a 40 50 part;thing b 1 50 part;purse 99");
        Check.due("100 of 99", x.best(0, 1), 1);
        Check.tell(x, "purse 100");
        Check.due("100 of 100", x.best(0, 1), 3);
        Check.tell(x, "load 39");
        Check.due("only b", x.best(0, 1), 2);
        Check.tell(x, "load 0");
        Check.due("nothing", x.best(0, 1), 0);
    }

    private static void bestThatLoses() {
        // all lose: the least loss, and of equal ones the least number
        CarryUp x = Check.told("call 0 1 0 1439 1 99 0;sort 0 1 0 ab;sort 0 9 0 cdefgh;load 5");
        Check.due("a, b", x.best(0, 1), 3);
        Check.tell(x, "load 1");
        Check.due("no sort can be done", x.best(0, 1), 0);
    }

    // ---- promise 17: sure

    private static void sureToTheLastHair() {
        CarryUp x = Check.told("thing a 2 0 part;thing b 1 0 part;call 0 1 0 1439 0 0 0;sort 0 20 0 a;sort 0 19 0 b");
        // the nearest ones have 1 between a times 39 and b times 20, or 19
        Check.due("as likely as told", x.sure(0, 1, 20, 39), 1);
        Check.due("a little more", x.sure(0, 1, 21, 39), 3);
        Check.due("nearest above 20 of 39", x.sure(0, 1, 39, 76), 3);
        Check.due("nearest below 20 of 39", x.sure(0, 1, 41, 80), 1);
        Check.due("19 of 39, as it is", x.sure(0, 1, 19, 39), 2);
        Check.due("nearest above 19 of 39", x.sure(0, 1, 39, 80), 1);
        Check.due("nearest below 19 of 39", x.sure(0, 1, 37, 76), 2);
        Check.due("not in lowest terms", x.sure(0, 1, 38, 78), 2);
    }

    private static void sureOfNothingAndOfAll() {
        CarryUp x = Check.told("call 0 1 0 1439 0 0 0;sort 0 1 0 a;sort 0 20 0 b;sort 0 20 0 c;sort 0 20 0 d");
        Check.due("nothing in one", x.sure(0, 1, 0, 1), 0);
        Check.due("nothing in 99", x.sure(0, 1, 0, 99), 0);
        Check.due("one in one", x.sure(0, 1, 1, 1), 15);
        Check.due("99 in 99", x.sure(0, 1, 99, 99), 15);
        Check.due("98 in 99: 60 of 61 is not enough", x.sure(0, 1, 98, 99), 15);
        Check.due("60 in 61", x.sure(0, 1, 60, 61), 14);
        Check.due("1 in 99", x.sure(0, 1, 1, 99), 1);
        Check.due("home", x.sure(6, 1, 1, 1), 0);
    }

    private static void sureBoundsOfAAndB() {
        CarryUp x = Check.told("call 0 1 0 1439 0 0 0;sort 0 1 0 none");
        for (int b : new int[] {1, 2, 98, 99}) {
            for (int a : new int[] {0, 1, b}) Check.due(a + " in " + b, x.sure(0, 1, a, b), 0);
            int one = b;
            Check.refused(x, "b in b - 1", () -> x.sure(0, 1, one + 1, one), CarryUp.OUTSIDE);
            Check.refused(x, "-1 in b", () -> x.sure(0, 1, -1, one), CarryUp.OUTSIDE);
        }
        Check.refused(x, "0 in 0", () -> x.sure(0, 1, 0, 0), CarryUp.OUTSIDE);
        Check.refused(x, "-1 in -1", () -> x.sure(0, 1, -1, -1), CarryUp.OUTSIDE);
        Check.refused(x, "100 in 100", () -> x.sure(0, 1, 100, 100), CarryUp.OUTSIDE);
        Check.refused(x, "0 in 100", () -> x.sure(0, 1, 0, 100), CarryUp.OUTSIDE);
    }

    private static void sureLeastWeight() {
        CarryUp x = Check.told("thing a 3 0 part;thing b 1 0 part;thing c 1 0 part;thing h 2 0 part;call 0 1 0 1439 0 0 0",
            "sort 0 1 0 a;sort 0 1 0 bc;sort 0 1 0 h");
        Check.due("of weight 2 the least number", x.sure(0, 1, 1, 3), 6);
        Check.due("of weight 4 the only one", x.sure(0, 1, 2, 3), 6 + 128);
        Check.tell(x, "thing h 1 0 part");
        Check.due("the lightest, though its number is greater", x.sure(0, 1, 1, 3), 128);
        Check.tell(x, "thing h 2 99 part;purse 98");
        Check.due("h is too dear", x.sure(0, 1, 2, 3), 7);
    }

    private static void sureNone() {
        CarryUp x = Check.told("thing a 40 0 part;thing b 1 0 part;call 0 1 0 1439 0 0 0;sort 0 1 0 a;sort 0 1 0 b");
        Check.due("too heavy", x.sure(0, 1, 1, 1), CarryUp.NONE);
        Check.due("half", x.sure(0, 1, 1, 2), 2);
        Check.due("a little more than half", x.sure(0, 1, 50, 99), CarryUp.NONE);
        Check.tell(x, "load 41");
        Check.due("not too heavy", x.sure(0, 1, 1, 1), 3);
        Check.tell(x, "load 0");
        Check.due("nothing can be carried", x.sure(0, 1, 1, 99), CarryUp.NONE);
        Check.due("nothing is asked for", x.sure(0, 1, 0, 99), 0);
    }

    private static void sureNeverLate() {
        CarryUp x = Check.told("begin 490;call 0 1 0 500 0 0 0;sort 0 1 0 none");
        Check.due("there as it shuts", x.sure(0, 1, 1, 1), 0);
        Check.tell(x, "begin 491");
        Check.due("there a minute behind", x.sure(0, 1, 1, 99), CarryUp.NONE);
        Check.due("nothing is asked for", x.sure(0, 1, 0, 1), 0);
    }
}
