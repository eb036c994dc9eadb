/** Promises 14 to 18: plan, bestRule, waiting, mix, till. */
public final class BestTest {
    private static final Check CHECK = new Check();

    public static void main(String[] args) {
        refusals();
        noGroups();
        planOfTables();
        planOfSix();
        planAgainstTime();
        planOfLateFirst();
        bestRules();
        patiences();
        mixes();
        mixKeepsWays();
        nothingChanges();
        CHECK.end();
    }

    private static void refusals() {
        CafeTables x = new CafeTables();
        CHECK.due("plan", x.plan(-2), -1);
        CHECK.due("plan", x.plan(-1), -3);
        CHECK.due("plan", x.plan(0), -1);
        CHECK.due("best rule", x.bestRule(2), -2);
        CHECK.due("best rule", x.bestRule(1), -3);
        CHECK.due("waiting", x.waiting(-1), -2);
        CHECK.due("waiting", x.waiting(0), -3);
        CHECK.due("mix", x.mix(25, 0), -2);
        CHECK.due("mix", x.mix(24, 4), -2);
        CHECK.due("mix", x.mix(24, 3), -3);
        CHECK.due("till", x.till(0, 3), -2);
        CHECK.due("till", x.till(0, 2), -3);
        x = Check.cafe("i2");
        CHECK.due("plan", x.plan(0), -1);
        CHECK.due("best rule", x.bestRule(-1), -2);
        CHECK.due("waiting", x.waiting(2), -2);
        CHECK.due("mix", x.mix(1, 0), -2);
        CHECK.due("mix", x.mix(2, -1), -2);
        CHECK.due("till", x.till(0, -1), -2);
    }

    private static void noGroups() {
        CafeTables x = Check.cafe("i2");
        CHECK.due("plan", x.plan(-1), 0);
        CHECK.due("best rule", x.bestRule(0), 0);
        CHECK.due("best rule", x.bestRule(1), 0);
        CHECK.due("waiting", x.waiting(0), 0);
        CHECK.due("till", x.till(0, 0), 31);
        CHECK.due("till", x.till(0, 1), 0);
        CHECK.due("till", x.till(0, 2), 30);
        CHECK.due("till", x.till(1, 0), 0);
        CHECK.due("till", x.till(1, 1), -9);
        CHECK.due("till", x.till(1, 2), -9);
        for (int what = 0; what <= 3; what++) {
            CHECK.due("mix of nobody", x.mix(24, what), 0);
        }
    }

    private static void planOfTables() {
        CafeTables x = Check.cafe("i4;s2");
        x.group(0, 2, 0, 10, 0, 6);
        x.group(0, 4, 5, 10, 0, 6);
        x.group(0, 2, 9, 20, 0, 6);
        x.rain(0);
        // Neither lure nor rain counts; the first gives way to the last, who brings more.
        CHECK.due("coin", x.plan(-1), 24 + 14);
        CHECK.due("group 0", x.plan(0), -9);
        CHECK.due("group 1", x.plan(1), 0);
        CHECK.due("group 2", x.plan(2), 1);
        CHECK.due("group 3", x.plan(3), -1);
        x = Check.cafe("i4;i4");
        x.group(0, 4, 0, 10, 0, 0);
        x.group(0, 4, 10, 10, 0, 0);
        CHECK.due("one may come as another goes", x.plan(1), 0);
        x.group(0, 4, 9, 2, 0, 0);
        CHECK.due("first as a row", x.plan(2), 1);
        x.group(0, 4, 9, 2, 0, 0);
        CHECK.due("coin", x.plan(-1), 24 + 24 + 20);
        CHECK.due("not at all is the last", x.plan(2), 1);
        CHECK.due("not at all is the last", x.plan(3), -9);
    }

    private static void planOfSix() {
        CafeTables x = Check.cafe("i6;i6;i6;i6;i6;i6");
        for (int g = 0; g < 8; g++) {
            x.group(0, 6, 0, 60, 0, 0);
        }
        CHECK.due("six of them", x.plan(-1), 6 * 66);
        for (int g = 0; g < 6; g++) {
            CHECK.due("group " + g, x.plan(g), g);
        }
        CHECK.due("the seventh is none of them", x.plan(6), -1);
    }

    private static void planAgainstTime() {
        CafeTables x = Check.cafe("i1");
        x.patience(30);
        x.group(2, 1, 0, 9, 0, 0);
        x.group(0, 1, 18, 60, 0, 0);
        CHECK.due("as if nobody waits", x.plan(-1), 5 + 11);
        x.group(0, 1, 17, 60, 0, 0);
        CHECK.due("still", x.plan(-1), 16);
        CHECK.due("group 0", x.plan(0), 0);
        CHECK.due("group 1", x.plan(1), 0);
        CHECK.due("group 2", x.plan(2), -9);
    }

    private static void planOfLateFirst() {
        CafeTables x = Check.cafe("i1");
        x.group(0, 1, 18, 60, 0, 0);
        x.group(2, 1, 0, 9, 0, 0);
        CHECK.due("a later number may come first", x.plan(1), 0);
        CHECK.due("as if nobody waits", x.plan(-1), 11 + 5);
    }

    private static void bestRules() {
        CafeTables x = Check.cafe("i6;i1");
        x.group(0, 1, 0, 60, 0, 0);
        CHECK.due("of several the least", x.bestRule(0), 0);
        x.group(0, 6, 0, 60, 0, 0);
        CHECK.due("rule", x.bestRule(0), 1);
        CHECK.due("its coin", x.bestRule(1), 77);
        CHECK.due("the rule stays", x.many(2), 0);
        CHECK.due("so does the coin", x.coin(), 11);
        x = Check.cafe("w2;s3;i6");
        x.group(0, 1, 0, 60, 0, 0);
        x.group(0, 2, 1, 60, 1, 0);
        x.group(0, 2, 1, 60, 1, 0);
        x.group(0, 4, 2, 60, 1, 0);
        CHECK.due("all alike", x.bestRule(0), 0);
        x.rain(10);
        CHECK.due("rain counts", x.bestRule(0), 2);
        CHECK.due("rain counts", x.bestRule(1), 6 + 22 + 22);
    }

    private static void patiences() {
        CafeTables x = Check.cafe("i2");
        x.group(0, 2, 0, 20, 0, 0);
        x.group(0, 1, 5, 60, 0, 0);
        x.group(0, 2, 30, 60, 0, 0);
        // From 15 on the second sits until 80 and the third is lost.
        CHECK.due("wait", x.waiting(0), 0);
        CHECK.due("its coin", x.waiting(1), 14 + 22);
        CHECK.due("till 36", x.till(36, 0), 15);
        CHECK.due("till 36", x.till(36, 1), 0);
        CHECK.due("till 36", x.till(36, 2), 14);
        CHECK.due("till 25", x.till(25, 0), 16);
        CHECK.due("till 25", x.till(25, 1), 15);
        CHECK.due("till 25", x.till(25, 2), 30);
        CHECK.due("till 0", x.till(0, 0), 0);
        x = Check.cafe("i2");
        x.group(0, 2, 0, 20, 0, 0);
        x.group(0, 1, 5, 60, 0, 0);
        CHECK.due("wait", x.waiting(0), 15);
        CHECK.due("its coin", x.waiting(1), 25);
        CHECK.due("patience stays", x.many(3), 0);
    }

    private static void mixes() {
        CafeTables x = Check.cafe("s1");
        x.rain(0);
        x.group(0, 2, 0, 10, 0, 0);
        x.group(0, 4, 0, 10, 0, 0);
        x.group(0, 6, 0, 10, 0, 0);
        due(x, 2, 12, 1, 0, 0);
        due(x, 4, 12, 0, 1, 0);
        due(x, 6, 36, 1, 1, 0);
        due(x, 8, 36, 0, 2, 0);
        due(x, 12, 72, 1, 1, 1);
        due(x, 24, 72, 0, 0, 3);
        due(x, 3, 12, 1, 0, 0);
        x = Check.cafe("s1");
        for (int g = 0; g < 8; g++) {
            x.group(0, 1, 0, 10, 0, 0);
        }
        due(x, 24, 36, 0, 6, 0);
        due(x, 23, 36, 1, 5, 0);
        due(x, 12, 36, 6, 0, 0);
        x = Check.cafe("s1");
        x.group(0, 1, 0, 10, 0, 1);
        due(x, 24, 0, 0, 0, 0);
    }

    private static void mixKeepsWays() {
        CafeTables x = Check.cafe("s1");
        x.group(0, 4, 0, 10, 0, 0);
        due(x, 4, 24, 0, 1, 0);
        x.group(0, 2, 0, 10, 0, 0);
        x.joining(true);
        due(x, 4, 24, 0, 1, 0);
        x.patience(30);
        due(x, 4, 36, 0, 1, 0);
        x = Check.cafe("s1");
        x.group(0, 6, 0, 10, 0, 0);
        x.group(0, 4, 20, 10, 0, 0);
        x.group(0, 4, 20, 10, 0, 0);
        due(x, 8, 60, 0, 0, 1);
        x.joining(true);
        due(x, 8, 84, 0, 2, 0);
    }

    private static void due(CafeTables x, int s, int coin, int twos, int fours, int sixes) {
        int[] want = {coin, twos, fours, sixes};
        for (int what = 0; what <= 3; what++) {
            CHECK.due("mix(" + s + ", " + what + ")", x.mix(s, what), want[what]);
        }
    }

    private static void nothingChanges() {
        CafeTables x = Check.cafe("s2;w4;i6");
        x.rain(12);
        x.rule(2);
        x.patience(7);
        x.group(2, 2, 0, 30, 0, 0);
        x.group(1, 5, 3, 30, 2, 1);
        x.group(0, 5, 9, 30, 1, 1);
        String before = Check.stateOf(x);
        x.plan(-1);
        x.bestRule(0);
        x.waiting(0);
        x.mix(20, 0);
        x.till(3, 0);
        x.worth(1);
        x.taken(20, 1);
        CHECK.due("all stays", before.equals(Check.stateOf(x)));
    }
}
