/** Part 5 of the document and promises 19 and 20, sentence by sentence, at the edges that they name. */
public final class NamesEdgeTest {
    private static final Check CHECK = new Check();

    public static void main(String[] args) {
        noNames();
        eightNames();
        noneOrAllCome();
        noChairs();
        asManyChairs();
        coinAndCostAtTheirEnds();
        sharesOfNought();
        sharesBelowNought();
        leastTerms();
        theGreatestShares();
        namesRefused();
        namesWithoutACafe();
        takeTheMost();
        takeOfSeveral();
        takeAtItsEnds();
        takeRefused();
        CHECK.end();
    }

    private static void share(int n, int p, int c, int coin, int cost, long upper, long lower) {
        CafeTables x = new CafeTables();
        String call = "names(" + n + ", " + p + ", " + c + ", " + coin + ", " + cost + ", ";
        CHECK.due(call + "0)", x.names(n, p, c, coin, cost, 0), upper);
        CHECK.due(call + "1)", x.names(n, p, c, coin, cost, 1), lower);
    }

    private static void noNames() {
        CHECK.says("NAMES: of n (0 .. 8): of none");
        int[] percents = {0, 1, 50, 100};
        for (int p : percents) {
            for (int c = 0; c <= 8; c += 4) {
                share(0, p, c, 9, 9, 0, 1);
            }
        }
    }

    private static void eightNames() {
        CHECK.says("NAMES: of n (0 .. 8): of 8");
        share(8, 50, 8, 1, 0, 4, 1);
        share(8, 50, 0, 0, 1, -4, 1);
        share(8, 50, 8, 9, 9, 36, 1);
        // All 8 come in one case of 256, and then one of them in vain.
        share(8, 50, 7, 0, 1, -1, 256);
        share(8, 50, 7, 1, 0, 1023, 256);
        share(8, 50, 1, 1, 0, 255, 256);
    }

    private static void noneOrAllCome() {
        CHECK.says("each of whom comes in p of 100 cases (0 .. 100)");
        for (int n = 0; n <= 8; n++) {
            for (int c = 0; c <= 8; c++) {
                share(n, 0, c, 9, 9, 0, 1);
                share(n, 100, c, 7, 2, 7L * Math.min(n, c) - 2L * Math.max(n - c, 0), 1);
            }
        }
        share(1, 1, 1, 1, 0, 1, 100);
        share(1, 99, 1, 1, 0, 99, 100);
    }

    private static void noChairs() {
        CHECK.says("to c chairs (0 .. 8): to none");
        for (int n = 0; n <= 8; n++) {
            share(n, 100, 0, 9, 1, -n, 1);
            share(n, 50, 0, 9, 2, -n, 1);
        }
    }

    private static void asManyChairs() {
        CHECK.says("to c chairs (0 .. 8): as many as come, one fewer, one more");
        share(7, 100, 8, 9, 9, 63, 1);
        share(8, 100, 8, 9, 9, 72, 1);
        share(8, 100, 7, 9, 9, 54, 1);
        share(2, 50, 1, 2, 0, 3, 2);
        share(2, 50, 2, 2, 0, 2, 1);
        share(2, 50, 3, 2, 0, 2, 1);
    }

    private static void coinAndCostAtTheirEnds() {
        CHECK.says("coin (0 .. 9) for each who sits, less cost (0 .. 9) for each who comes in vain");
        share(2, 100, 1, 0, 0, 0, 1);
        share(2, 100, 1, 9, 0, 9, 1);
        share(2, 100, 1, 0, 9, -9, 1);
        share(2, 100, 1, 9, 9, 0, 1);
        share(2, 100, 1, 1, 0, 1, 1);
        share(2, 100, 1, 0, 1, -1, 1);
    }

    private static void sharesOfNought() {
        CHECK.says("Shares .. in least terms: of what is 0, 0 and 1");
        share(8, 37, 4, 0, 0, 0, 1);
        share(8, 0, 8, 9, 9, 0, 1);
        share(2, 50, 1, 1, 3, 0, 1);
        share(5, 100, 1, 4, 1, 0, 1);
    }

    private static void sharesBelowNought() {
        CHECK.says("upper and lower number (above 0): of what is below 0 the upper one is");
        share(1, 37, 0, 5, 9, -333, 100);
        share(1, 50, 0, 0, 1, -1, 2);
        share(2, 50, 1, 0, 1, -1, 4);
        share(8, 100, 0, 9, 9, -72, 1);
    }

    private static void leastTerms() {
        CHECK.says("in least terms");
        share(1, 50, 1, 2, 0, 1, 1);
        share(1, 25, 1, 2, 0, 1, 2);
        share(1, 20, 1, 5, 0, 1, 1);
        share(1, 10, 1, 3, 0, 3, 10);
        share(1, 33, 1, 1, 0, 33, 100);
        for (int p = 0; p <= 100; p++) {
            CafeTables x = new CafeTables();
            long upper = x.names(8, p, 3, 7, 5, 0);
            long lower = x.names(8, p, 3, 7, 5, 1);
            CHECK.due("above 0, p " + p, lower > 0);
            CHECK.due("no 2 in both, p " + p, upper % 2 != 0 || lower % 2 != 0);
            CHECK.due("no 5 in both, p " + p, upper % 5 != 0 || lower % 5 != 0);
        }
    }

    private static void theGreatestShares() {
        CHECK.says("Shares are told as upper and lower number, of 8 names, too");
        share(8, 37, 3, 5, 9, 7697807327789259L, 1000000000000000L);
        // Less the one in vain of all 8: 99 to the power of 8 of 100 to the power of 8.
        share(8, 99, 7, 0, 1, -9227446944279201L, 10000000000000000L);
    }

    private static void namesRefused() {
        CHECK.says("NAMES: a share. LOST: OUTSIDE");
        CafeTables x = new CafeTables();
        int[] greatest = {8, 100, 8, 9, 9, 1};
        for (int k = 0; k < 6; k++) {
            int[] a = {0, 0, 0, 0, 0, 0};
            a[k] = greatest[k];
            CHECK.due("greatest, place " + k, names(x, a) != Check.LOST);
            a[k] = greatest[k] + 1;
            CHECK.due("above, place " + k, names(x, a), Check.LOST);
            a[k] = -1;
            CHECK.due("below, place " + k, names(x, a), Check.LOST);
            a[k] = 0;
            CHECK.due("least, place " + k, names(x, a) != Check.LOST);
        }
        CHECK.due("all greatest", x.names(8, 100, 8, 9, 9, 1), 1);
    }

    private static long names(CafeTables x, int[] a) {
        return x.names(a[0], a[1], a[2], a[3], a[4], a[5]);
    }

    private static void namesWithoutACafe() {
        CHECK.says("NAMES and TAKE name no STATE: with and without a CAFE they are the same");
        CafeTables x = Check.cafe("s2");
        CHECK.due("names", x.names(2, 50, 1, 2, 0, 0), 3);
        CHECK.due("take", x.take(100, 3, 5, 9), 3);
        CHECK.due("nothing changed", Check.stateOf(x).equals(Check.stateOf(Check.cafe("s2"))));
    }

    private static void takeTheMost() {
        CHECK.says("TAKE: the n of the most");
        CafeTables x = new CafeTables();
        CHECK.due("all come to three chairs", x.take(100, 3, 5, 9), 3);
        CHECK.due("all come to eight chairs", x.take(100, 8, 1, 9), 8);
        CHECK.due("half come to one chair, 1 in vain", x.take(50, 1, 9, 1), 4);
        CHECK.due("one in a hundred comes", x.take(1, 1, 9, 9), 8);
    }

    private static void takeOfSeveral() {
        CHECK.says("TAKE .. of several the least");
        CafeTables x = new CafeTables();
        CHECK.due("those in vain cost nothing", x.take(100, 3, 5, 0), 3);
        CHECK.due("nothing for anybody", x.take(50, 3, 0, 0), 0);
        CHECK.due("two bring what one brings", x.take(50, 1, 1, 1), 1);
        CHECK.due("eight bring what seven bring", x.take(100, 7, 9, 0), 7);
    }

    private static void takeAtItsEnds() {
        CHECK.says("TAKE: n 0 .. 8");
        CafeTables x = new CafeTables();
        CHECK.due("none comes", x.take(0, 8, 9, 9), 0);
        CHECK.due("no chairs", x.take(50, 0, 9, 9), 0);
        CHECK.due("no chairs, for nothing", x.take(50, 0, 9, 0), 0);
        CHECK.due("no coin", x.take(50, 8, 0, 9), 0);
        CHECK.due("chairs for all", x.take(50, 8, 1, 9), 8);
        CHECK.due("one chair, for nothing in vain", x.take(99, 1, 1, 0), 8);
    }

    private static void takeRefused() {
        CHECK.says("TAKE. OUTSIDE");
        CafeTables x = new CafeTables();
        int[] greatest = {100, 8, 9, 9};
        for (int k = 0; k < 4; k++) {
            int[] a = {0, 0, 0, 0};
            a[k] = greatest[k];
            CHECK.due("greatest, place " + k, x.take(a[0], a[1], a[2], a[3]), 0);
            a[k] = greatest[k] + 1;
            CHECK.due("above, place " + k, x.take(a[0], a[1], a[2], a[3]), -2);
            a[k] = -1;
            CHECK.due("below, place " + k, x.take(a[0], a[1], a[2], a[3]), -2);
        }
        CHECK.due("all greatest", x.take(100, 8, 9, 9), 8);
    }
}
