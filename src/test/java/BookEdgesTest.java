/** Promises 22 to 28: STANDS IN and IDLE without SORTS, a BOOK of none and of sixteen, sets of just enough, SEEDS at their ends. */
public final class BookEdgesTest {
    public static void main(String[] args) {
        standsInWithoutSorts();
        standsInForWhatAllWant();
        standsInWhereItIsOne();
        noTwoThings();
        idleOfNoneAndAll();
        anEmptyBook();
        sixteenVisits();
        visitsRefused();
        whatWasWantedThen();
        savedByWhatWasThereAndMore();
        savedBounds();
        mostOfOneToThree();
        mostNeedsThemAll();
        mostOfEquals();
        mostNeedNotBeCarried();
        boxOfNone();
        boxByItself();
        boxOfEquals();
        boxOfBounds();
        seedsAtTheirEnds();
        theSeedComesRound();
        theSeedByLikely();
        aDayOfSix();
        aDayByHome();
        runIsLateToTheMinute();
        runAtItsLeastAndItsMost();
        runRefused();
        Check.end();
    }

    // ---- promises 22, 23: stands, idle

    private static void standsInWithoutSorts() {
        for (CarryUp x : new CarryUp[] {new CarryUp(), Check.told("call 0 1 0 0 0 0 0"), Check.told("call 0 1 0 0 0 0 0;sort 0 1 0 none")}) {
            for (int i = 0; i < 64; i++) {
                if (i / 8 != i % 8) Check.due("wanted by none", x.stands(i / 8, i % 8), 1);
            }
        }
    }

    private static void standsInForWhatAllWant() {
        CarryUp x = Check.told("call 5 1 0 0 0 0 0;sort 5 1 0 none;sort 5 1 0 none;sort 5 1 0 none;sort 5 1 0 ah or ah");
        for (int t = 0; t < 8; t++) {
            if (t != 0) Check.due("for a", x.stands(t, 0), 0);
            if (t != 7) Check.due("for h", x.stands(t, 7), 0);
            if (t != 3) Check.due("for d", x.stands(t, 3), 1);
        }
        Check.tell(x, "call 5 1 0 0 0 0 0;sort 5 1 0 a or b");
        Check.due("a is wanted, and still stands in for c", x.stands(0, 2), 1);
        Check.due("a does not stand in for b", x.stands(0, 1), 0);
    }

    private static void standsInWhereItIsOne() {
        CarryUp x = Check.told("call 0 1 0 0 0 0 0;sort 0 1 0 none or abc;sort 0 1 0 none or ab;call 5 1 0 0 0 0 0;sort 5 1 0 none or a");
        int[][] stands = {{0, 1, 1}, {0, 2, 1}, {1, 0, 0}, {1, 2, 1}, {2, 0, 0}, {2, 1, 0}, {0, 3, 1}, {3, 0, 0}, {3, 2, 0}};
        for (int[] s : stands) Check.due(s[0] + " for " + s[1], x.stands(s[0], s[1]), s[2]);
        Check.tell(x, "call 5 1 0 0 0 0 0");
        Check.due("alike", x.stands(1, 0) + x.stands(0, 1), 2);
    }

    private static void noTwoThings() {
        CarryUp x = new CarryUp();
        for (int t = 0; t < 8; t++) {
            int thing = t;
            Check.refused(x, "for itself", () -> x.stands(thing, thing), CarryUp.UNKNOWN);
            for (int no : new int[] {-1, 8, Integer.MIN_VALUE, Integer.MAX_VALUE}) {
                Check.refused(x, t + " for " + no, () -> x.stands(thing, no), CarryUp.UNKNOWN);
                Check.refused(x, no + " for " + t, () -> x.stands(no, thing), CarryUp.UNKNOWN);
            }
        }
        Check.refused(x, "no thing for itself", () -> x.stands(8, 8), CarryUp.UNKNOWN);
    }

    private static void idleOfNoneAndAll() {
        CarryUp x = Check.told("call 0 1 0 0 0 0 0;sort 0 1 0 none");
        Check.due("all", x.idle(), 255);
        Check.tell(x, "sort 0 1 0 abcdefgh");
        Check.due("none", x.idle(), 0);
        Check.tell(x, "call 0 1 0 0 0 0 0;sort 0 1 0 none or abcdefgh");
        Check.due("none by one", x.idle(), 0);
        Check.tell(x, "call 0 1 0 0 0 0 0;sort 0 1 0 abcdefg");
        Check.due("h", x.idle(), 128);
        Check.tell(x, "call 5 1 0 0 0 0 0;sort 5 1 0 none;sort 5 1 0 none;sort 5 1 0 none;sort 5 1 0 none or h");
        Check.due("by the last sort of the last call", x.idle(), 0);
    }

    // ---- promise 24: visit

    private static void anEmptyBook() {
        CarryUp x = Check.told("call 0 1 0 0 0 0 0;sort 0 1 0 a");
        Check.due("visits", x.count(2), 0);
        for (int set = 0; set < 256; set++) Check.due("saved", x.saved(set), 0);
        for (int k = 1; k <= 3; k++) Check.due("most of " + k, x.most(k), (1 << k) - 1);
        Check.due("the box", x.box(0), 0);
        Check.due("for none", x.box(1), 0);
    }

    private static void sixteenVisits() {
        CarryUp x = Check.told("call 5 1 0 0 0 0 0;sort 5 1 0 none;sort 5 1 0 a;sort 5 1 0 b;sort 5 1 0 c");
        for (int i = 1; i <= 16; i++) {
            Check.due("visit " + i, x.visit(5, i % 4, i == 16 ? 255 : 0), i);
            Check.due("visits", x.count(2), i);
        }
        for (int bag : new int[] {0, 255}) Check.refused(x, "a 17th", () -> x.visit(5, 0, bag), CarryUp.FULL);
        Check.refused(x, "OUTSIDE ahead of FULL", () -> x.visit(5, 0, 256), CarryUp.OUTSIDE);
        Check.refused(x, "OUTSIDE ahead of FULL", () -> x.visit(5, 0, -1), CarryUp.OUTSIDE);
        Check.refused(x, "UNKNOWN ahead of FULL", () -> x.visit(5, 4, 0), CarryUp.UNKNOWN);
        Check.refused(x, "UNKNOWN ahead of FULL and OUTSIDE", () -> x.visit(4, 0, 256), CarryUp.UNKNOWN);
        Check.due("a, b, c: four each", x.saved(2) + x.saved(4) + x.saved(8), 12 - 4);
        Check.due("all of them", x.saved(14), 8);
        Check.due("all of them, by the box", x.box(1), 16);
        Check.tell(x, "call 5 1 0 0 0 0 0");
        Check.due("the book stays full", x.count(2), 16);
    }

    private static void visitsRefused() {
        CarryUp x = Check.told("call 0 1 0 0 0 0 0;sort 0 1 0 a;call 1 1 0 0 0 0 0");
        x.visit(0, 0, 0);
        Check.refused(x, "a call that is not told", () -> x.visit(2, 0, 0), CarryUp.UNKNOWN);
        Check.refused(x, "a call without sorts", () -> x.visit(1, 0, 0), CarryUp.UNKNOWN);
        Check.refused(x, "a sort more", () -> x.visit(0, 1, 0), CarryUp.UNKNOWN);
        Check.refused(x, "sort -1", () -> x.visit(0, -1, 0), CarryUp.UNKNOWN);
        Check.refused(x, "call -1", () -> x.visit(-1, 0, 0), CarryUp.UNKNOWN);
        Check.refused(x, "call 6", () -> x.visit(6, 0, 0), CarryUp.UNKNOWN);
        Check.refused(x, "bag -1", () -> x.visit(0, 0, -1), CarryUp.OUTSIDE);
        Check.refused(x, "bag 256", () -> x.visit(0, 0, 256), CarryUp.OUTSIDE);
        Check.due("the second one", x.visit(0, 0, 255), 2);
    }

    private static void whatWasWantedThen() {
        CarryUp x = Check.told("call 0 1 0 0 0 0 0;sort 0 1 0 a or bc");
        x.visit(0, 0, 0);
        String book = x.saved(3) + " " + x.saved(5) + " " + x.most(2) + " " + x.box(0) + " " + x.box(1);
        Check.due("a, b and a, c", x.saved(3) * 10 + x.saved(5), 11);
        Check.tell(x, "call 0 1 0 0 0 0 0;sort 0 1 0 h;thing a 1 0 tool");
        Check.yes("what the sort wanted then is written down", book.equals(x.saved(3) + " " + x.saved(5) + " " + x.most(2) + " " + x.box(0) + " " + x.box(1)));
        Check.due("h would not have done", x.saved(128), 0);
    }

    // ---- promise 25: saved

    private static void savedByWhatWasThereAndMore() {
        CarryUp x = Check.told("call 0 1 0 0 0 0 0;sort 0 1 0 abc or gh");
        x.visit(0, 0, 3);
        for (int set = 0; set < 256; set++) Check.due("c, and g or h, with a, b", x.saved(set), (set & 4) != 0 && (set & 192) != 0 ? 1 : 0);
        CarryUp done = Check.told("call 0 1 0 0 0 0 0;sort 0 1 0 abc or gh");
        done.visit(0, 0, 71);
        for (int set = 0; set < 256; set++) Check.due("what did is not saved", done.saved(set), 0);
    }

    private static void savedBounds() {
        CarryUp x = Check.told("call 0 1 0 0 0 0 0;sort 0 1 0 abcdefgh");
        x.visit(0, 0, 0);
        Check.due("no set", x.saved(0), 0);
        Check.due("all but one", x.saved(254) + x.saved(127), 0);
        Check.due("all", x.saved(255), 1);
        for (int set : new int[] {Integer.MIN_VALUE, -1, 256, 511, Integer.MAX_VALUE}) Check.refused(x, "set " + set, () -> x.saved(set), CarryUp.OUTSIDE);
    }

    // ---- promise 26: most

    private static void mostOfOneToThree() {
        CarryUp x = Check.told("call 0 1 0 0 0 0 0;sort 0 1 0 h;sort 0 1 0 g;sort 0 1 0 f;sort 0 1 0 e");
        for (int s = 0; s < 4; s++) x.visit(0, s, 0);
        Check.due("one", x.most(1), 16);
        Check.due("two", x.most(2), 48);
        Check.due("three", x.most(3), 112);
        x.visit(0, 0, 0);
        Check.due("h twice", x.most(1), 128);
        Check.due("h twice, and e", x.most(2), 144);
        Check.due("h twice, and e, f", x.most(3), 176);
        for (int k : new int[] {Integer.MIN_VALUE, -1, 0, 4, 8, Integer.MAX_VALUE}) Check.refused(x, "most by " + k, () -> x.most(k), CarryUp.OUTSIDE);
    }

    private static void mostNeedsThemAll() {
        CarryUp x = Check.told("call 0 1 0 0 0 0 0;sort 0 1 0 fgh;sort 0 1 0 b");
        for (int i = 0; i < 3; i++) x.visit(0, 0, 0);
        x.visit(0, 1, 0);
        Check.due("b alone", x.most(1), 2);
        Check.due("b and the least other one", x.most(2), 3);
        Check.due("three that save three", x.most(3), 224);
        x.visit(0, 1, 2);
        Check.due("b was there", x.most(3), 224);
    }

    private static void mostOfEquals() {
        CarryUp x = Check.told("call 0 1 0 0 0 0 0;sort 0 1 0 none or defgh;sort 0 1 0 none");
        x.visit(0, 0, 0);
        Check.due("the least one", x.most(1), 8);
        Check.due("with the least other one", x.most(2), 9);
        Check.due("with the two least", x.most(3), 11);
        CarryUp y = Check.told("call 0 1 0 0 0 0 0;sort 0 1 0 none");
        y.visit(0, 0, 0);
        Check.due("what wants nothing cannot be saved", y.most(1), 1);
    }

    private static void mostNeedNotBeCarried() {
        CarryUp x = Check.told("load 0;purse 0;thing h 99 99 part;call 0 1 0 0 0 0 0;sort 0 1 0 h");
        x.visit(0, 0, 0);
        Check.due("h, though it may not be", x.most(1), 128);
        Check.due("saved by h", x.saved(128), 1);
        Check.due("but not in the box", x.box(0), 0);
    }

    // ---- promise 27: box

    private static void boxOfNone() {
        CarryUp x = Check.told("call 0 1 0 0 0 0 0;sort 0 1 0 none;sort 0 1 0 a");
        x.visit(0, 0, 0);
        Check.due("nothing does", x.box(0), 0);
        Check.due("for one", x.box(1), 1);
        Check.tell(x, "load 0");
        x.visit(0, 1, 0);
        Check.due("nothing can be carried", x.box(0), 0);
        Check.due("for one still", x.box(1), 1);
    }

    private static void boxByItself() {
        CarryUp x = Check.told("call 0 1 0 0 0 0 0;sort 0 1 0 ab;sort 0 1 0 a");
        for (int i = 0; i < 15; i++) x.visit(0, 0, 1);
        Check.due("b alone does not", x.box(0), 3);
        Check.due("for fifteen", x.box(1), 15);
        x.visit(0, 1, 255);
        Check.due("what was done counts too", x.box(1), 16);
        Check.tell(x, "load 1");
        Check.due("one alone", x.box(0), 1);
        Check.due("for one", x.box(1), 1);
    }

    private static void boxOfEquals() {
        CarryUp x = Check.told("call 0 1 0 0 0 0 0;sort 0 1 0 none or abc;sort 0 1 0 none or de;thing a 3 0 part;thing b 2 0 part;thing c 2 0 part;thing d 5 0 part;thing e 4 0 part");
        x.visit(0, 0, 0);
        Check.due("the least weight, then the least number", x.box(0), 2);
        x.visit(0, 1, 0);
        Check.due("both", x.box(0), 2 + 16);
        Check.tell(x, "thing b 2 9 part;purse 8");
        Check.due("b is too dear", x.box(0), 4 + 16);
        Check.tell(x, "load 5");
        Check.due("only one of both", x.box(0), 4);
        Check.tell(x, "load 1");
        Check.due("none of both", x.box(0), 0);
    }

    private static void boxOfBounds() {
        CarryUp x = Check.told("call 0 1 0 0 0 0 0;sort 0 1 0 abcdefgh;load 8");
        x.visit(0, 0, 0);
        Check.due("all of them", x.box(0), 255);
        Check.due("for one", x.box(1), 1);
        Check.tell(x, "load 7");
        Check.due("one too heavy", x.box(0), 0);
        Check.due("for none", x.box(1), 0);
        for (int what : new int[] {Integer.MIN_VALUE, -1, 2, 3, Integer.MAX_VALUE}) Check.refused(x, "box " + what, () -> x.box(what), CarryUp.OUTSIDE);
    }

    // ---- promise 28: run

    private static int after(int seed) {
        return (int) ((seed * 25173L + 13849) % 65536);
    }

    private static void seedsAtTheirEnds() {
        CarryUp x = Check.told("begin 0;way 0 1 0;call 0 1 0 1439 1 1 0;sort 0 1 1 none;sort 0 1 2 none;sort 0 1 3 none;sort 0 1 4 none");
        // 0 becomes 13849, by 64 it is 216; 65535 becomes 54212, by 64 it is 847
        Check.due("seed 0", x.run(0, 0, 0, 1, 1), 1);
        Check.due("seed 65535", x.run(65535, 0, 0, 1, 1), 847 % 4 + 1);
        for (int seed = 1; seed < 65536; seed = seed * 2 + 1) Check.due("seed " + seed, x.run(seed, 0, 0, 1, 1), after(seed) / 64 % 4 + 1);
        for (int seed : new int[] {Integer.MIN_VALUE, -65536, -1, 65536, 131071, Integer.MAX_VALUE}) {
            Check.refused(x, "seed " + seed, () -> x.run(seed, 0, 0, 1, 1), CarryUp.OUTSIDE);
        }
    }

    private static void theSeedComesRound() {
        // six calls: each drawn number is told by a digit of the minutes, of base 3
        CarryUp x = Check.told("begin 0;way 0 1 0");
        for (int c = 0, unit = 1; c < 5; c++, unit *= 3) {
            Check.tell(x, "call " + c + " 1 0 1439 1 1 0;sort " + c + " 20 0 none;sort " + c + " 20 " + unit + " none;sort " + c + " 20 " + 2 * unit + " none");
        }
        for (int seed = 0; seed < 65536; seed += 257) {
            int minutes = 0, number = seed;
            for (int c = 0, unit = 1; c < 5; c++, unit *= 3) {
                number = after(number);
                minutes += number / 64 % 60 / 20 * unit;
            }
            Check.due("seed " + seed, x.run(seed, 0, 0x643210, 6, 1), minutes);
        }
    }

    private static void theSeedByLikely() {
        // seed 0 becomes 13849, by 64 it is 216: modulo 80 it is 56, modulo 61 33, modulo 24 0, modulo 7 6
        int[][] likely = {{20, 20, 20, 20}, {20, 20, 17, 20}, {20, 20, 16, 5}, {1, 20, 20, 20}, {1, 1, 1, 20}, {4, 18, 1, 1}, {1, 1, 4, 1}, {1, 1, 1, 4}};
        for (int[] l : likely) {
            CarryUp x = Check.told("begin 0;way 0 1 0;call 0 1 0 1439 1 1 0");
            int all = 0, sort = -1;
            for (int s = 0; s < 4; s++) {
                all += l[s];
                Check.tell(x, "sort 0 " + l[s] + " " + (s + 1) + " none");
            }
            for (int s = 0, rest = 216 % all; s < 4 && sort < 0; rest -= l[s], s++) sort = rest < l[s] ? s : -1;
            Check.due("seed 0 of " + all, x.run(0, 0, 0, 1, 1), sort + 1);
        }
        CarryUp x = Check.told("begin 0;way 0 1 0;call 0 1 0 1439 1 1 0;sort 0 1 7 none");
        for (int seed = 0; seed < 65536; seed += 4369) Check.due("the only sort", x.run(seed, 0, 0, 1, 1), 7);
    }

    private static void aDayOfSix() {
        CarryUp x = new CarryUp();
        for (int c = 0; c < 6; c++) {
            Check.tell(x, "thing " + (char) ('a' + c) + " 1 0 part;call " + c + " 1 0 1439 " + (c + 1) + " 50 3;sort " + c + " 1 2 " + (char) ('a' + c));
        }
        for (int bag = 0; bag < 256; bag++) {
            int gain = 1000, minutes = 490;
            for (int c = 0; c < 6; c++) {
                gain += (bag >> c & 1) == 1 ? c + 1 : -50;
                minutes += (bag >> c & 1) == 1 ? 2 : 3;
            }
            int[] due = {gain, minutes, bag & 63, bag & 192};
            for (int what = 0; what < 4; what++) Check.due("day of six, bag " + bag, x.run(7, bag, 0x543210, 6, what), due[what]);
        }
        for (int what = 0; what < 4; what++) Check.due("home six times", x.run(7, 77, 0x666666, 6, what), new int[] {1000, 480, 0, 77}[what]);
    }

    private static void aDayByHome() {
        CarryUp x = Check.told("call 0 1 0 1439 5 1 0;sort 0 1 0 a;call 1 1 0 1439 6 1 0;sort 1 1 0 a");
        int[][] due = {{0x10, 2, 1004, 490, 1, 6}, {0x160, 3, 1011, 510, 3, 6}, {0x610, 3, 1004, 500, 1, 7}, {0x106, 3, 1004, 490, 1, 6}};
        for (int[] d : due) {
            for (int what = 0; what < 4; what++) Check.due("by home " + Integer.toHexString(d[0]) + " " + what, x.run(9, 7, d[0], d[1], what), d[what + 2]);
        }
    }

    private static void runIsLateToTheMinute() {
        for (int begin = 489; begin <= 491; begin++) {
            CarryUp x = Check.told("begin " + begin + ";call 0 1 0 500 7 5 99;sort 0 1 200 none;call 1 1 0 1439 1 1 0;sort 1 1 1 none;sort 1 1 2 none;sort 1 1 3 none");
            boolean late = begin > 490;
            Check.due("brought", x.run(1, 0, 0, 1, 0), late ? 995 : 1007);
            Check.due("last minute", x.run(1, 0, 0, 1, 1), begin + (late ? 10 : 210));
            Check.due("done", x.run(1, 0, 0, 1, 2), late ? 0 : 1);
            // where he is late nothing is drawn
            int number = late ? after(1) : after(after(1));
            Check.due("drawn for the next one", x.run(1, 0, 0x10, 2, 1), begin + (late ? 10 : 210) + number / 64 % 3 + 1);
        }
        CarryUp x = Check.told("call 0 1 491 600 7 5 3;sort 0 1 4 none");
        Check.due("he waits", x.run(1, 0, 0, 1, 1), 495);
        Check.tell(x, "call 0 1 491 600 7 5 3;sort 0 1 4 a");
        Check.due("he waits, and looks", x.run(1, 0, 0, 1, 1), 494);
    }

    private static void runAtItsLeastAndItsMost() {
        CarryUp x = new CarryUp();
        for (int c = 0; c < 6; c++) Check.tell(x, "call " + c + " 1 0 1439 99 99 99;sort " + c + " 20 200 none or a");
        Check.tell(x, "thing a 1 0 tool");
        Check.due("the least", x.run(0, 0, 0x543210, 6, 0), 1000 - 594);
        Check.due("its last minute", x.run(0, 0, 0x543210, 6, 1), 490 + 594);
        Check.due("the most", x.run(0, 1, 0x543210, 6, 0), 1000 + 99 * 5 - 99);
        Check.due("its last minute, late for the sixth", x.run(0, 1, 0x543210, 6, 1), 1490);
        Check.due("all but the sixth", x.run(0, 1, 0x543210, 6, 2), 31);
        Check.tell(x, "begin 429");
        Check.due("none late", x.run(0, 1, 0x543210, 6, 0), 1594);
        Check.due("all six", x.run(0, 1, 0x543210, 6, 2), 63);
        Check.due("the tool is left", x.run(0, 1, 0x543210, 6, 3), 1);
    }

    private static void runRefused() {
        CarryUp x = Check.told("call 0 1 0 1439 1 1 0;sort 0 1 1 none;call 1 1 0 0 0 0 0");
        Check.refused(x, "n ahead of all", () -> x.run(-1, -1, 7, 0, -1), CarryUp.OUTSIDE);
        Check.refused(x, "no such call ahead of the others", () -> x.run(-1, -1, 7, 1, -1), CarryUp.UNKNOWN);
        Check.refused(x, "no sorts", () -> x.run(0, 0, 1, 1, 0), CarryUp.UNKNOWN);
        Check.refused(x, "a call twice", () -> x.run(0, 0, 0x060, 3, 0), CarryUp.OUTSIDE);
        Check.refused(x, "bag 256", () -> x.run(0, 256, 0, 1, 0), CarryUp.OUTSIDE);
        Check.refused(x, "bag -1", () -> x.run(0, -1, 0, 1, 0), CarryUp.OUTSIDE);
        Check.refused(x, "what 4", () -> x.run(0, 0, 0, 1, 4), CarryUp.OUTSIDE);
        Check.refused(x, "what -1", () -> x.run(0, 0, 0, 1, -1), CarryUp.OUTSIDE);
    }
}
