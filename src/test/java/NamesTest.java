import java.math.BigInteger;

/** Promises 19 and 20: names, take, against a count of all cases, one by one. */
public final class NamesTest {
    private static final Check CHECK = new Check();

    public static void main(String[] args) {
        shares();
        allShares();
        refusals();
        takes();
        CHECK.end();
    }

    private static void share(int n, int p, int c, int coin, int cost, long upper, long lower) {
        CafeTables x = new CafeTables();
        CHECK.due("upper of " + n + " " + p + " " + c, x.names(n, p, c, coin, cost, 0), upper);
        CHECK.due("lower of " + n + " " + p + " " + c, x.names(n, p, c, coin, cost, 1), lower);
    }

    private static void shares() {
        share(0, 50, 3, 9, 9, 0, 1);
        share(1, 50, 1, 1, 0, 1, 2);
        share(2, 50, 1, 4, 4, 2, 1);
        share(2, 50, 1, 3, 9, 0, 1);
        share(2, 50, 1, 1, 9, -3, 2);
        share(8, 100, 8, 9, 9, 72, 1);
        share(8, 100, 0, 9, 9, -72, 1);
        share(8, 99, 8, 9, 0, 1782, 25);
        share(3, 0, 2, 9, 9, 0, 1);
    }

    private static BigInteger cases(int n, int p, int c, int coin, int cost) {
        BigInteger sum = BigInteger.ZERO;
        for (int who = 0; who < 1 << n; who++) {
            int come = Integer.bitCount(who);
            long gain = 0;
            for (int k = 0; k < come; k++) {
                gain += k < c ? coin : -cost;
            }
            BigInteger weight = BigInteger.valueOf(p).pow(come).multiply(BigInteger.valueOf(100 - p).pow(n - come));
            sum = sum.add(weight.multiply(BigInteger.valueOf(gain)));
        }
        return sum;
    }

    private static void allShares() {
        CafeTables x = new CafeTables();
        int[] percents = {0, 1, 13, 25, 50, 64, 99, 100};
        int[][] coins = {{0, 0}, {0, 9}, {9, 0}, {5, 7}, {9, 9}};
        for (int p : percents) {
            for (int c = 0; c <= 8; c++) {
                for (int[] k : coins) {
                    int best = 0;
                    BigInteger most = BigInteger.ZERO;
                    for (int n = 0; n <= 8; n++) {
                        BigInteger upper = cases(n, p, c, k[0], k[1]);
                        BigInteger lower = BigInteger.valueOf(100).pow(n);
                        BigInteger gcd = upper.gcd(lower);
                        String call = "names " + n + " " + p + " " + c + " " + k[0] + " " + k[1];
                        CHECK.due(call, x.names(n, p, c, k[0], k[1], 0), upper.divide(gcd).longValueExact());
                        CHECK.due(call, x.names(n, p, c, k[0], k[1], 1), lower.divide(gcd).longValueExact());
                        BigInteger scaled = upper.multiply(BigInteger.valueOf(100).pow(8 - n));
                        if (scaled.compareTo(most) > 0) {
                            most = scaled;
                            best = n;
                        }
                    }
                    CHECK.due("take " + p + " " + c + " " + k[0] + " " + k[1], x.take(p, c, k[0], k[1]), best);
                }
            }
        }
    }

    private static void refusals() {
        CafeTables x = new CafeTables();
        int[] greatest = {8, 100, 8, 9, 9, 1};
        for (int k = 0; k < 6; k++) {
            int[] wrong = {-1, greatest[k] + 1, Integer.MIN_VALUE, Integer.MAX_VALUE};
            for (int w : wrong) {
                int[] a = {1, 1, 1, 1, 1, 1};
                a[k] = w;
                CHECK.due("names, place " + k, x.names(a[0], a[1], a[2], a[3], a[4], a[5]), Check.LOST);
                if (k >= 1 && k <= 4) {
                    CHECK.due("take, place " + k, x.take(a[1], a[2], a[3], a[4]), -2);
                }
            }
        }
    }

    private static void takes() {
        CafeTables x = new CafeTables();
        CHECK.due("all come", x.take(100, 3, 5, 9), 3);
        CHECK.due("none comes", x.take(0, 3, 5, 9), 0);
        CHECK.due("of several the least", x.take(100, 3, 5, 0), 3);
        CHECK.due("half come", x.take(50, 1, 1, 1), 1);
        CHECK.due("in vain for nothing", x.take(50, 1, 1, 0), 8);
    }
}
