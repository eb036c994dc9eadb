/** Promises 10 to 18 on many made-up cafes, against Model. */
public final class ModelTest {
    private static final Check CHECK = new Check();
    private static long seed = 20261117L;

    public static void main(String[] args) {
        for (int k = 0; k < 4000; k++) {
            Model m = madeUp();
            CafeTables x = told(m);
            String name = "cafe " + k;
            day(name, x, m);
            if (k % 10 == 0) {
                best(name, x, m);
            }
            if (k % 20 == 0) {
                plan(name, x, m);
            }
            if (k % 100 == 0) {
                mix(name, x, m);
            }
            changeWays(x, m);
            day(name + " changed", x, m);
        }
        CHECK.end();
    }

    /** 0 .. n - 1, the same in every run. */
    private static int pick(int n) {
        seed = seed * 6364136223846793005L + 1442695040888963407L;
        return (int) ((seed >>> 33) % n);
    }

    private static Model madeUp() {
        Model m = new Model();
        int tables = 1 + pick(6);
        int mostSeats = 2 + pick(5);
        for (int t = 0; t < tables; t++) {
            m.tables.add(new int[] {pick(3), 1 + pick(mostSeats)});
        }
        int groups = pick(9);
        int spread = 1 + pick(100);
        int longest = 1 + pick(60);
        int mostLure = 1 + pick(3);
        for (int g = 0; g < groups; g++) {
            int[] a = {pick(3), 1 + pick(6), pick(spread), 1 + pick(longest), pick(3), pick(3) == 0 ? pick(mostLure + 1) : 0};
            m.groups.add(a);
        }
        ways(m);
        return m;
    }

    private static void ways(Model m) {
        m.rule = pick(3);
        m.patience = pick(3) == 0 ? 0 : pick(31);
        m.joining = pick(2) == 0;
        m.rain = pick(2) == 0 ? Model.NONE : pick(130);
    }

    private static CafeTables told(Model m) {
        StringBuilder text = new StringBuilder();
        for (int[] t : m.tables) {
            text.append(text.length() == 0 ? "" : ";").append("swi".charAt(t[0])).append(t[1]);
        }
        CafeTables x = Check.cafe(text.toString());
        for (int[] a : m.groups) {
            x.group(a[0], a[1], a[2], a[3], a[4], a[5]);
        }
        tellWays(x, m);
        return x;
    }

    private static void tellWays(CafeTables x, Model m) {
        x.rule(m.rule);
        x.patience(m.patience);
        x.joining(m.joining);
        x.rain(m.rain);
    }

    /** So that nothing stands that was reckoned for the ways before. */
    private static void changeWays(CafeTables x, Model m) {
        ways(m);
        tellWays(x, m);
    }

    private static void day(String name, CafeTables x, Model m) {
        Model.Told told = m.play(-1);
        int[][] rows = {told.how, told.table, told.from, told.until, told.coin, told.waited};
        for (int g = 0; g < m.groups.size(); g++) {
            for (int what = 0; what <= 5; what++) {
                CHECK.due(name + " day(" + g + ", " + what + ")", x.day(g, what), rows[what][g]);
            }
        }
        CHECK.due(name + " coin", x.coin(), told.sum);
        for (int k = 0; k < 20; k++) {
            int minute = k == 0 ? 399 : k == 1 && m.rain != Model.NONE ? m.rain : pick(250);
            CHECK.due(name + " taken at " + minute, x.taken(minute, 0), told.taken[minute]);
            CHECK.due(name + " waiting at " + minute, x.taken(minute, 1), told.waiting[minute]);
        }
        for (int g = 0; g < m.groups.size(); g++) {
            CHECK.due(name + " worth " + g, x.worth(g), told.sum - m.play(g).sum);
        }
    }

    private static void best(String name, CafeTables x, Model m) {
        Model other = m.like();
        int most = -1;
        int best = 0;
        for (int v = 0; v <= 2; v++) {
            other.rule = v;
            int sum = other.play(-1).sum;
            best = sum > most ? v : best;
            most = Math.max(most, sum);
        }
        CHECK.due(name + " best rule", x.bestRule(0), best);
        CHECK.due(name + " its coin", x.bestRule(1), most);
        other.rule = m.rule;
        int[] coins = new int[31];
        best = 0;
        for (int v = 0; v <= 30; v++) {
            other.patience = v;
            coins[v] = other.play(-1).sum;
            best = coins[v] > coins[best] ? v : best;
        }
        CHECK.due(name + " wait", x.waiting(0), best);
        CHECK.due(name + " its coin", x.waiting(1), coins[best]);
        till(name, x, coins, coins[pick(31)]);
        till(name, x, coins, pick(200));
    }

    private static void till(String name, CafeTables x, int[] coins, int coin) {
        int many = 0;
        int least = Model.NONE;
        int greatest = Model.NONE;
        for (int v = 30; v >= 0; v--) {
            if (coins[v] == coin) {
                many++;
                least = v;
                greatest = Math.max(greatest, v);
            }
        }
        CHECK.due(name + " till, how many", x.till(coin, 0), many);
        CHECK.due(name + " till, least", x.till(coin, 1), least);
        CHECK.due(name + " till, greatest", x.till(coin, 2), greatest);
    }

    private static void plan(String name, CafeTables x, Model m) {
        int[] row = m.plan();
        for (int q = -1; q < row.length - 1; q++) {
            CHECK.due(name + " plan " + q, x.plan(q), row[q + 1]);
        }
    }

    private static void mix(String name, CafeTables x, Model m) {
        for (int k = 0; k < 3; k++) {
            int s = 2 + pick(23);
            int[] row = m.mix(s);
            for (int what = 0; what <= 3; what++) {
                CHECK.due(name + " mix(" + s + ", " + what + ")", x.mix(s, what), row[what]);
            }
        }
    }
}
