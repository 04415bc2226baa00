/** Promise 28: run. */
public final class RunTest {
    public static void main(String[] args) {
        theSeed();
        sortsByLikely();
        hoursAndBags();
        nothingIsDrawnWhenLate();
        homeTakesNoSeed();
        refused();
        Check.end();
    }

    private static void run(String what, CarryUp x, int seed, int bag, int row, int n, int[] due) {
        for (int i = 0; i < 4; i++) Check.due("run " + i + " of " + what, x.run(seed, bag, row, n, i), due[i]);
    }

    /** SEED for the next CALL. */
    private static int after(int seed) {
        return (int) ((seed * 25173L + 13849) % 65536);
    }

    private static void theSeed() {
        // one of 20 for each of four sorts of 20, 20, 20, 19: what is drawn is told by the minutes
        CarryUp x = Check.told("begin 0;way 0 1 0;call 0 1 0 1439 1 1 0;sort 0 20 1 none;sort 0 20 2 none;sort 0 20 3 none;sort 0 19 4 none",
            "call 1 1 0 1439 1 1 0;sort 1 20 10 none;sort 1 20 20 none;sort 1 20 30 none;sort 1 1 40 none");
        for (int seed : new int[] {0, 1, 63, 64, 777, 30000, 32767, 32768, 65535}) {
            int first = after(seed), second = after(first);
            int sort0 = first / 64 % 79 / 20 + 1, sort1 = second / 64 % 61 / 20 + 1;
            run("seed " + seed, x, seed, 0, 0x10, 2, new int[] {1002, sort0 + 10 * sort1, 3, 0});
        }
    }

    private static void sortsByLikely() {
        // seed 0 becomes 13849: by 64 it is 216
        CarryUp x = Check.told("way 0 1 0;begin 0");
        int[][] likely = {{1, 1, 1}, {1, 1, 2}, {1, 1, 3}, {1, 3, 3}, {16, 1, 20}, {17, 1, 2}, {16, 1, 2}, {15, 1, 2}, {20, 20, 16}};
        for (int[] l : likely) {
            Check.tell(x, "call 0 1 0 1439 1 1 0;sort 0 " + l[0] + " 1 none;sort 0 " + l[1] + " 2 none;sort 0 " + l[2] + " 3 none");
            int drawn = 216 % (l[0] + l[1] + l[2]);
            int minutes = drawn < l[0] ? 1 : drawn < l[0] + l[1] ? 2 : 3;
            Check.due("drawn of " + l[0] + ", " + l[1] + ", " + l[2], x.run(0, 0, 0, 1, 1), minutes);
        }
    }

    private static void hoursAndBags() {
        CarryUp x = Check.told("thing c 1 0 tool;call 0 1 600 700 30 7 11;sort 0 1 20 ac;call 1 2 0 640 40 8 12;sort 1 1 30 a;call 2 2 0 1439 50 9 13;sort 2 1 40 none or bc");
        run("0: he waits, a is used", x, 5, 7, 0, 1, new int[] {1030, 620, 1, 6});
        run("0, 1: a is gone", x, 5, 7, 0x10, 2, new int[] {1022, 642, 1, 6});
        run("0, home, 1: there as it shuts", x, 5, 7, 0x160, 3, new int[] {1070, 670, 3, 6});
        run("1, home, 0, 2", x, 5, 5, 0x2061, 4, new int[] {1120, 670, 7, 4});
        run("2: the least one is used", x, 5, 7, 2, 1, new int[] {1050, 530, 4, 5});
        run("nothing in the bag", x, 5, 0, 0x210, 3, new int[] {1000 - 7 - 8 - 9, 611 + 10 + 12 + 13, 0, 0});
        run("home alone", x, 5, 99, 6, 1, new int[] {1000, 480, 0, 99});
        run("home behind fills anew", x, 5, 7, 0x60, 2, new int[] {1030, 630, 1, 7});
    }

    private static void nothingIsDrawnWhenLate() {
        CarryUp x = Check.told("begin 100;way 0 1 0;call 0 1 0 99 1 5 50;sort 0 1 1 none;call 1 1 0 1439 1 1 0;sort 1 20 10 none;sort 1 20 20 none;sort 1 20 30 none;sort 1 20 40 none");
        for (int seed = 0; seed < 65536; seed += 6553) {
            int sort = after(seed) / 64 % 80 / 20 + 1;
            run("late, seed " + seed, x, seed, 0, 0x10, 2, new int[] {1000 - 5 + 1, 100 + 10 * sort, 2, 0});
        }
    }

    private static void homeTakesNoSeed() {
        CarryUp x = Check.told("begin 0;way 0 1 0;call 1 1 0 1439 1 1 0;sort 1 20 10 none;sort 1 20 20 none;sort 1 20 30 none;sort 1 20 40 none");
        for (int seed = 0; seed < 65536; seed += 6553) {
            int sort = after(seed) / 64 % 80 / 20 + 1;
            run("home, seed " + seed, x, seed, 3, 0x6166, 4, new int[] {1001, 10 * sort, 2, 3});
        }
    }

    private static void refused() {
        CarryUp x = Check.told("call 0 1 600 700 30 7 11;sort 0 1 20 ac;call 1 2 0 640 40 8 12");
        Check.due("n ahead of a call", x.run(0, 0, 7, 0, 0), CarryUp.OUTSIDE);
        Check.due("n 7", x.run(0, 0, 6, 7, 0), CarryUp.OUTSIDE);
        Check.due("a call without a sort", x.run(-1, 256, 1, 1, 4), CarryUp.UNKNOWN);
        Check.due("no call", x.run(0, 0, 0x26, 2, 0), CarryUp.UNKNOWN);
        Check.due("twice", x.run(0, 0, 0, 2, 0), CarryUp.OUTSIDE);
        Check.due("bag -1", x.run(0, -1, 0, 1, 0), CarryUp.OUTSIDE);
        Check.due("bag 256", x.run(0, 256, 0, 1, 0), CarryUp.OUTSIDE);
        Check.due("seed -1", x.run(-1, 0, 0, 1, 0), CarryUp.OUTSIDE);
        Check.due("seed 65536", x.run(65536, 0, 0, 1, 0), CarryUp.OUTSIDE);
        Check.due("what -1", x.run(0, 0, 0, 1, -1), CarryUp.OUTSIDE);
        Check.due("what 4", x.run(0, 0, 0, 1, 4), CarryUp.OUTSIDE);
    }
}
