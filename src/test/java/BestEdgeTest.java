/** Part 4 of the document and promises 14 to 18, sentence by sentence, at the edges that they name. */
public final class BestEdgeTest {
    private static final Check CHECK = new Check();

    public static void main(String[] args) {
        firstSixGroups();
        planRefused();
        planSeats();
        planAsLongAsHeStays();
        comeAsAnotherGoes();
        planAsIfNobodyWaits();
        planWithoutRainLureOrWays();
        notAtAllCountsAsNine();
        firstAsARow();
        mostCoinNotMostGroups();
        bestRuleOfSeveral();
        bestRuleKeepsTheRest();
        bestRuleRefused();
        waitOfSeveral();
        waitAtItsEnds();
        waitKeepsTheRest();
        waitingRefused();
        mixSeats();
        mixUpToSixTables();
        mixOrder();
        mixOfSeveral();
        mixWays();
        mixOfNobody();
        mixRefused();
        tills();
        tillNone();
        tillRefused();
        askedAgainAfterChanges();
        CHECK.end();
    }

    private static void guest(CafeTables x, int size, int comes, int stay) {
        x.group(0, size, comes, stay, 2, 0);
    }

    private static void firstSixGroups() {
        CHECK.says("PLAN: of the first 6 GROUPS");
        CafeTables x = Check.cafe("i6");
        CHECK.due("of none", x.plan(-1), 0);
        CHECK.due("of none, group 0", x.plan(0), -1);
        int[] coin = {5, 10, 15, 20, 25, 30, 30, 30};
        for (int g = 0; g < 8; g++) {
            guest(x, 1, 10 * g, 1);
            CHECK.due("coin of " + (g + 1), x.plan(-1), coin[g]);
            CHECK.due("group " + g, x.plan(g), g < 6 ? 0 : -1);
            CHECK.due("group " + (g + 1), x.plan(g + 1), -1);
        }
        x = Check.cafe("i6");
        for (int g = 0; g < 8; g++) {
            guest(x, g < 6 ? 1 : 6, 0, 1);
        }
        CHECK.due("the seventh and eighth, who would bring more, are none of them", x.plan(-1), 5);
        CHECK.due("group 5", x.plan(5), -9);
        CHECK.due("group 6", x.plan(6), -1);
        CHECK.due("group 7", x.plan(7), -1);
    }

    private static void planRefused() {
        CHECK.says("UNKNOWN: q is not -1 .. how many of the first 6 GROUPS there are, less 1; STATE: there is no CAFE");
        CafeTables x = new CafeTables();
        CHECK.due("no cafe", x.plan(-1), -3);
        CHECK.due("unknown first", x.plan(0), -1);
        CHECK.due("unknown first", x.plan(-2), -1);
        Check.take(x, "i1");
        CHECK.due("q -2", x.plan(-2), -1);
        CHECK.due("q -1", x.plan(-1), 0);
        CHECK.due("q 0", x.plan(0), -1);
        guest(x, 1, 0, 1);
        CHECK.due("q 0", x.plan(0), 0);
        CHECK.due("q 1", x.plan(1), -1);
        CHECK.due("q -9", x.plan(-9), -1);
    }

    private static void planSeats() {
        CHECK.says("each at a TABLE with SEATS for all");
        for (int seats = 1; seats <= 6; seats++) {
            for (int size = 1; size <= 6; size++) {
                CafeTables x = Check.cafe("i" + seats);
                guest(x, size, 0, 1);
                CHECK.due(size + " at " + seats, x.plan(0), size <= seats ? 0 : -9);
                CHECK.due("coin of " + size + " at " + seats, x.plan(-1), size <= seats ? 5 * size : 0);
            }
        }
        CafeTables x = Check.cafe("i2;i2");
        x.joining(true);
        guest(x, 3, 0, 1);
        CHECK.due("no two tables are joined", x.plan(0), -9);
        x = Check.cafe("i1;i1;i1;i1;i1;i1");
        guest(x, 2, 0, 1);
        guest(x, 1, 0, 1);
        CHECK.due("none of six tables has seats", x.plan(0), -9);
        CHECK.due("coin", x.plan(-1), 5);
    }

    private static void planAsLongAsHeStays() {
        CHECK.says("from COMES on as long as he STAYS: COIN of that");
        for (int kind = 0; kind <= 2; kind++) {
            CafeTables x = Check.cafe("i3");
            x.group(kind, 3, 99, 19, 0, 0);
            CHECK.due("kind " + kind, x.plan(-1), 18);
            x = Check.cafe("i3");
            x.group(kind, 3, 0, 60, 0, 0);
            CHECK.due("kind " + kind, x.plan(-1), 33);
        }
    }

    private static void comeAsAnotherGoes() {
        CHECK.says("no two at one TABLE at a time (one may come in the minute in which another goes)");
        int[][] kinds = {{0, 20}, {1, 40}, {2, 40}};
        for (int[] k : kinds) {
            for (int early = 0; early <= 1; early++) {
                for (int first = 0; first <= 1; first++) {
                    CafeTables x = Check.cafe("i1");
                    for (int g = 0; g <= 1; g++) {
                        boolean stays = g == first;
                        x.group(stays ? k[0] : 0, 1, stays ? 0 : k[1] - early, 20, 0, 0);
                    }
                    CHECK.due("kind " + k[0] + ", early " + early, x.plan(-1), early == 1 ? 7 : 14);
                    CHECK.due("group 0", x.plan(0), 0);
                    CHECK.due("group 1", x.plan(1), early == 1 ? -9 : 0);
                }
            }
        }
        CHECK.says("no two at one TABLE at a time: one within the time of another");
        CafeTables x = Check.cafe("i1");
        guest(x, 1, 10, 1);
        guest(x, 1, 0, 60);
        CHECK.due("the longer", x.plan(-1), 11);
        CHECK.due("group 0", x.plan(0), -9);
        CHECK.due("group 1", x.plan(1), 0);
    }

    private static void planAsIfNobodyWaits() {
        CHECK.says("as long as he STAYS (as if nobody WAITS)");
        CafeTables x = Check.cafe("i2;i1");
        x.patience(30);
        guest(x, 2, 0, 60);
        guest(x, 2, 0, 60);
        x.group(2, 1, 1, 9, 0, 0);
        guest(x, 1, 19, 60);
        CHECK.due("on the day he stays longer", x.day(2, 3), 21);
        CHECK.due("by plan the next may come in 19", x.plan(3), 1);
        CHECK.due("coin", x.plan(-1), 22 + 5 + 11);
    }

    private static void planWithoutRainLureOrWays() {
        CHECK.says("each at a TABLE .. from COMES on: whatever RAIN, LURE and WANTS");
        CafeTables x = Check.cafe("s2");
        x.group(0, 2, 10, 30, 1, 6);
        x.rain(0);
        x.rule(2);
        CHECK.due("coin of the day", x.coin(), 0);
        CHECK.due("coin", x.plan(-1), 16);
        CHECK.due("table", x.plan(0), 0);
    }

    private static void notAtAllCountsAsNine() {
        CHECK.says("not at all counts as 9: a row with a TABLE sooner is first");
        CafeTables x = Check.cafe("i1");
        guest(x, 1, 0, 10);
        guest(x, 1, 0, 10);
        CHECK.due("group 0", x.plan(0), 0);
        CHECK.due("group 1", x.plan(1), -9);
        x = Check.cafe("i1;i1;i1;i1;i1;i1");
        for (int g = 0; g < 6; g++) {
            guest(x, 1, 0, 10);
        }
        CHECK.due("at the last table rather than not at all", x.plan(5), 5);
        CHECK.says("TABLE of GROUP q; NONE");
        x = Check.cafe("i1");
        guest(x, 6, 0, 10);
        CHECK.due("too many", x.plan(0), -9);
        CHECK.due("coin", x.plan(-1), 0);
    }

    private static void firstAsARow() {
        CHECK.says("the most COIN together; of several the first as a row by GROUPS");
        CafeTables x = Check.cafe("i4;i2;i4");
        guest(x, 2, 0, 10);
        guest(x, 2, 0, 10);
        guest(x, 4, 0, 10);
        int[] row = {0, 1, 2};
        for (int q = 0; q < 3; q++) {
            CHECK.due("group " + q, x.plan(q), row[q]);
        }
        guest(x, 4, 0, 10);
        int[] fours = {1, -9, 0, 2};
        for (int q = 0; q < 4; q++) {
            CHECK.due("two of four: group " + q, x.plan(q), fours[q]);
        }
        CHECK.due("coin", x.plan(-1), 12 + 24 + 24);
        CHECK.says("of several the first as a row: by number, not by COMES");
        x = Check.cafe("i1;i1");
        guest(x, 1, 20, 10);
        guest(x, 1, 0, 25);
        CHECK.due("the late one, told first", x.plan(0), 0);
        CHECK.due("the early one", x.plan(1), 1);
    }

    private static void mostCoinNotMostGroups() {
        CHECK.says("the most COIN together");
        CafeTables x = Check.cafe("i6");
        guest(x, 1, 0, 10);
        guest(x, 1, 10, 10);
        guest(x, 1, 20, 10);
        guest(x, 4, 5, 20);
        CHECK.due("one of four", x.plan(-1), 28);
        CHECK.due("he", x.plan(3), 0);
        for (int q = 0; q < 3; q++) {
            CHECK.due("group " + q, x.plan(q), -9);
        }
    }

    private static void bestRuleOfSeveral() {
        CHECK.says("BEST RULE: RULE 0 .. 2 of the most COIN; of several the least");
        CafeTables x = Check.cafe("i6;i2");
        CHECK.due("of nobody", x.bestRule(0), 0);
        CHECK.due("of nobody, coin", x.bestRule(1), 0);
        guest(x, 2, 0, 60);
        CHECK.due("all alike", x.bestRule(0), 0);
        CHECK.due("all alike, coin", x.bestRule(1), 22);
        guest(x, 6, 0, 60);
        CHECK.due("1 and 2 alike", x.bestRule(0), 1);
        CHECK.due("1 and 2 alike, coin", x.bestRule(1), 88);
        x = Check.cafe("i2;s3;w3");
        x.group(0, 2, 0, 60, 0, 0);
        x.group(0, 3, 1, 60, 0, 0);
        x.group(0, 3, 1, 60, 0, 0);
        CHECK.due("0 and 1 alike, 2 worse", x.bestRule(0), 0);
        CHECK.due("coin", x.bestRule(1), 88);
        x = Check.cafe("i2;s3");
        x.rain(10);
        x.group(0, 2, 5, 60, 0, 0);
        x.group(0, 2, 12, 60, 0, 0);
        x.group(0, 2, 9, 3, 2, 0);
        CHECK.due("2 alone", x.bestRule(0), 2);
        CHECK.due("2 alone, coin", x.bestRule(1), 10 + 22 + 10);
    }

    private static void bestRuleKeepsTheRest() {
        CHECK.says("BEST RULE changes nothing");
        CafeTables x = Check.cafe("i6;i2");
        guest(x, 2, 0, 60);
        guest(x, 6, 0, 60);
        x.rule(2);
        String before = Check.stateOf(x);
        CHECK.due("rule", x.bestRule(0), 1);
        CHECK.due("all stays", before.equals(Check.stateOf(x)));
        CHECK.says("BEST RULE: PATIENCE, JOINING and RAIN as they are");
        x = Check.cafe("i6;i2");
        guest(x, 2, 0, 10);
        guest(x, 6, 0, 60);
        x.patience(9);
        CHECK.due("patience 9", x.bestRule(0), 1);
        x.patience(10);
        CHECK.due("patience 10: all alike", x.bestRule(0), 0);
        x = Check.cafe("i4;i2;i4");
        guest(x, 2, 0, 60);
        guest(x, 4, 0, 60);
        guest(x, 4, 0, 60);
        CHECK.due("not joined", x.bestRule(0), 1);
        x = Check.cafe("i6;i2;i4");
        guest(x, 2, 0, 60);
        guest(x, 6, 0, 60);
        CHECK.due("not joined", x.bestRule(0), 1);
        x.joining(true);
        CHECK.due("joined: all alike", x.bestRule(0), 0);
    }

    private static void bestRuleRefused() {
        CHECK.says("BEST RULE (what 0), its COIN (1). OUTSIDE; STATE: there is no CAFE");
        CafeTables x = new CafeTables();
        CHECK.due("what 0", x.bestRule(0), -3);
        CHECK.due("what 1", x.bestRule(1), -3);
        CHECK.due("what 2", x.bestRule(2), -2);
        CHECK.due("what -1", x.bestRule(-1), -2);
        Check.take(x, "i1");
        CHECK.due("what 2", x.bestRule(2), -2);
        CHECK.due("what -1", x.bestRule(-1), -2);
    }

    private static void waitOfSeveral() {
        CHECK.says("WAIT: PATIENCE 0 .. 30 of the most; of several the least");
        CafeTables x = Check.cafe("i1");
        CHECK.due("of nobody", x.waiting(0), 0);
        CHECK.due("of nobody, coin", x.waiting(1), 0);
        guest(x, 1, 0, 20);
        guest(x, 1, 10, 20);
        CHECK.due("from 10 on all alike", x.waiting(0), 10);
        CHECK.due("coin", x.waiting(1), 14);
        guest(x, 1, 20, 60);
        CHECK.due("0 .. 9 are 18, 10 .. 19 are 14, from 20 on 25", x.waiting(0), 20);
        CHECK.due("coin", x.waiting(1), 25);
    }

    /** The second waits for so long till the first has gone. */
    private static CafeTables waitsFor(int minutes) {
        CafeTables x = Check.cafe("i1");
        guest(x, 1, 0, 40);
        guest(x, 1, 40 - minutes, 10);
        return x;
    }

    private static void waitAtItsEnds() {
        CHECK.says("PATIENCE 0 .. 30");
        int[][] due = {{0, 0, 15}, {1, 1, 15}, {29, 29, 15}, {30, 30, 15}, {31, 0, 9}};
        for (int[] d : due) {
            CHECK.due("wait " + d[0], waitsFor(d[0]).waiting(0), d[1]);
            CHECK.due("wait " + d[0] + ", coin", waitsFor(d[0]).waiting(1), d[2]);
        }
    }

    private static void waitKeepsTheRest() {
        CHECK.says("WAIT changes nothing");
        CafeTables x = waitsFor(5);
        x.patience(2);
        String before = Check.stateOf(x);
        CHECK.due("wait", x.waiting(0), 5);
        CHECK.due("all stays", before.equals(Check.stateOf(x)));
        CHECK.says("WAIT: RULE, JOINING and RAIN as they are");
        x = Check.cafe("i6;i2");
        guest(x, 2, 0, 10);
        guest(x, 6, 0, 60);
        CHECK.due("rule 0", x.waiting(0), 10);
        x.rule(1);
        CHECK.due("rule 1", x.waiting(0), 0);
        x = Check.cafe("i4;i2;i2");
        guest(x, 4, 0, 10);
        guest(x, 4, 0, 10);
        CHECK.due("not joined", x.waiting(0), 10);
        x.joining(true);
        CHECK.due("joined", x.waiting(0), 0);
        x = Check.cafe("s1;i1");
        guest(x, 1, 0, 20);
        guest(x, 1, 0, 20);
        guest(x, 1, 15, 20);
        CHECK.due("dry", x.waiting(0), 5);
        x.rain(10);
        CHECK.due("rain", x.waiting(0), 5);
        CHECK.due("rain, coin", x.waiting(1), 6 + 7 + 7);
        x.rain(20);
        CHECK.due("rain", x.waiting(1), 7 + 7 + 7);
    }

    private static void waitingRefused() {
        CHECK.says("WAIT (what 0), its COIN (1). OUTSIDE; STATE: there is no CAFE");
        CafeTables x = new CafeTables();
        CHECK.due("what 0", x.waiting(0), -3);
        CHECK.due("what 1", x.waiting(1), -3);
        CHECK.due("what 2", x.waiting(2), -2);
        CHECK.due("what -1", x.waiting(-1), -2);
        Check.take(x, "i1");
        CHECK.due("what 2", x.waiting(2), -2);
        CHECK.due("what -1", x.waiting(-1), -2);
    }

    private static void dueMix(CafeTables x, int s, int coin, int twos, int fours, int sixes) {
        int[] want = {coin, twos, fours, sixes};
        for (int what = 0; what <= 3; what++) {
            CHECK.due("mix(" + s + ", " + what + ")", x.mix(s, what), want[what]);
        }
    }

    private static void mixSeats() {
        CHECK.says("MIX of s SEATS (2 .. 24): no more SEATS in all");
        CafeTables x = Check.cafe("s1");
        for (int g = 0; g < 8; g++) {
            guest(x, 6, 0, 1);
        }
        int[][] due = {{2, 0}, {5, 0}, {6, 1}, {11, 1}, {12, 2}, {17, 2}, {18, 3}, {23, 3}, {24, 4}};
        for (int[] d : due) {
            dueMix(x, d[0], 30 * d[1], 0, 0, d[1]);
        }
        CHECK.says("of 2, 4, 6 SEATS: one more than that finds none");
        for (int size = 1; size <= 6; size++) {
            x = Check.cafe("s1");
            guest(x, size, 0, 1);
            dueMix(x, 2, size <= 2 ? 5 * size : 0, size <= 2 ? 1 : 0, 0, 0);
            CHECK.due(size + " of 4 seats", x.mix(4, 0), size <= 4 ? 5 * size : 0);
            CHECK.due(size + " of 5 seats", x.mix(5, 0), size <= 4 ? 5 * size : 0);
            CHECK.due(size + " of 6 seats", x.mix(6, 0), 5 * size);
        }
        CHECK.says("of 2, 4, 6 SEATS: the least and one more");
        x = Check.cafe("s1");
        guest(x, 1, 0, 1);
        dueMix(x, 2, 5, 1, 0, 0);
        dueMix(x, 3, 5, 1, 0, 0);
        dueMix(x, 4, 5, 0, 1, 0);
        dueMix(x, 5, 5, 0, 1, 0);
        dueMix(x, 6, 5, 0, 0, 1);
    }

    private static void mixUpToSixTables() {
        CHECK.says("up to 6 TABLES");
        CafeTables x = Check.cafe("s1");
        for (int g = 0; g < 8; g++) {
            guest(x, 1, 0, 1);
        }
        dueMix(x, 10, 25, 5, 0, 0);
        dueMix(x, 12, 30, 6, 0, 0);
        dueMix(x, 14, 30, 5, 1, 0);
        dueMix(x, 24, 30, 0, 6, 0);
    }

    private static void mixOrder() {
        CHECK.says("of 2, 4, 6 SEATS (numbered in that order)");
        CafeTables x = Check.cafe("s1");
        guest(x, 1, 0, 60);
        guest(x, 2, 0, 60);
        guest(x, 4, 0, 60);
        guest(x, 6, 0, 60);
        // By rule 0 each sits at the least number: so a two for each of the first two, then 4, then 6.
        dueMix(x, 14, 143, 2, 1, 1);
        CHECK.says("TABLES INSIDE");
        x = Check.cafe("s1");
        x.rule(2);
        x.group(0, 1, 0, 60, 2, 0);
        x.group(0, 6, 0, 60, 0, 0);
        dueMix(x, 8, 77, 1, 0, 1);
        // Where the cafe's own tables stand does not count: no table of a mix is in the sun that he wants.
        x = Check.cafe("w1;s1");
        x.rule(2);
        x.group(0, 1, 0, 60, 0, 0);
        x.group(0, 6, 0, 60, 0, 0);
        dueMix(x, 8, 77, 1, 0, 1);
    }

    private static void mixOfSeveral() {
        CHECK.says("of the most COIN; of several the first as a row (how many of 2, of 4, of 6)");
        CafeTables x = Check.cafe("s1");
        guest(x, 2, 0, 1);
        guest(x, 2, 0, 1);
        dueMix(x, 24, 20, 0, 0, 2);
        dueMix(x, 11, 20, 0, 1, 1);
        dueMix(x, 9, 20, 0, 2, 0);
        dueMix(x, 7, 20, 1, 1, 0);
        dueMix(x, 5, 20, 2, 0, 0);
        dueMix(x, 3, 10, 1, 0, 0);
    }

    private static void mixWays() {
        CHECK.says("MIX: RULE as now (by each RULE alike, as TABLES are numbered by SEATS and all INSIDE)");
        CafeTables x = Check.cafe("s1");
        x.group(0, 2, 0, 60, 0, 0);
        x.group(0, 4, 0, 60, 1, 0);
        x.group(0, 6, 0, 60, 2, 0);
        for (int v = 0; v <= 2; v++) {
            x.rule(v);
            dueMix(x, 12, 132, 1, 1, 1);
            dueMix(x, 10, 66, 0, 1, 1);
        }
        CHECK.says("MIX: PATIENCE as now");
        x = Check.cafe("s1");
        guest(x, 6, 0, 10);
        guest(x, 6, 0, 10);
        dueMix(x, 6, 36, 0, 0, 1);
        x.patience(9);
        dueMix(x, 6, 36, 0, 0, 1);
        x.patience(10);
        dueMix(x, 6, 72, 0, 0, 1);
        CHECK.says("MIX: JOINING as now");
        x = Check.cafe("s1");
        guest(x, 4, 0, 10);
        guest(x, 2, 10, 10);
        guest(x, 2, 10, 10);
        dueMix(x, 4, 36, 0, 1, 0);
        x.joining(true);
        dueMix(x, 4, 48, 2, 0, 0);
        CHECK.says("MIX: no RAIN");
        x.rain(5);
        dueMix(x, 4, 48, 2, 0, 0);
        CHECK.due("rain stays", x.many(5), 5);
        CHECK.says("MIX: whatever TABLES the CAFE has; they stay");
        CHECK.due("tables", x.many(0), 1);
        CHECK.due("seats", x.many(6), 1);
        CHECK.due("coin of the day", x.coin(), 0);
    }

    private static void mixOfNobody() {
        CHECK.says("of several the first as a row: no TABLES at all, if none brings COIN");
        CafeTables x = Check.cafe("i6");
        dueMix(x, 2, 0, 0, 0, 0);
        dueMix(x, 24, 0, 0, 0, 0);
        x.group(0, 1, 0, 1, 0, 1);
        dueMix(x, 24, 0, 0, 0, 0);
        x = Check.cafe("i6");
        guest(x, 3, 0, 1);
        dueMix(x, 3, 0, 0, 0, 0);
    }

    private static void mixRefused() {
        CHECK.says("MIX. OUTSIDE: s, what; STATE: there is no CAFE");
        CafeTables x = new CafeTables();
        CHECK.due("s 2", x.mix(2, 0), -3);
        CHECK.due("s 24", x.mix(24, 3), -3);
        for (int again = 0; again <= 1; again++) {
            CHECK.due("s 1", x.mix(1, 0), -2);
            CHECK.due("s 0", x.mix(0, 0), -2);
            CHECK.due("s 25", x.mix(25, 0), -2);
            CHECK.due("what 4", x.mix(2, 4), -2);
            CHECK.due("what -1", x.mix(24, -1), -2);
            Check.take(x, "i1");
        }
        CHECK.due("s 2", x.mix(2, 0), 0);
        CHECK.due("s 24", x.mix(24, 3), 0);
    }

    private static void dueTill(CafeTables x, int coin, int many, int least, int greatest) {
        int[] want = {many, least, greatest};
        for (int what = 0; what <= 2; what++) {
            CHECK.due("till(" + coin + ", " + what + ")", x.till(coin, what), want[what]);
        }
    }

    private static void tills() {
        CHECK.says("TILL: those PATIENCES 0 .. 30 by which the DAY has so much COIN: how many, the least, the greatest");
        CafeTables x = Check.cafe("i1");
        dueTill(x, 0, 31, 0, 30);
        guest(x, 1, 0, 20);
        dueTill(x, 7, 31, 0, 30);
        guest(x, 1, 10, 20);
        dueTill(x, 7, 10, 0, 9);
        dueTill(x, 14, 21, 10, 30);
        guest(x, 1, 20, 60);
        dueTill(x, 18, 10, 0, 9);
        dueTill(x, 14, 10, 10, 19);
        dueTill(x, 25, 11, 20, 30);
        dueTill(waitsFor(30), 15, 1, 30, 30);
        dueTill(waitsFor(30), 9, 30, 0, 29);
        dueTill(waitsFor(1), 9, 1, 0, 0);
        dueTill(waitsFor(1), 15, 30, 1, 30);
        dueTill(waitsFor(31), 9, 31, 0, 30);
        CHECK.says("TILL: PATIENCES that are not beside one another");
        x = Check.cafe("i1");
        guest(x, 1, 0, 20);
        guest(x, 1, 10, 10);
        guest(x, 1, 25, 10);
        // Till 9 the first and the third; 10 .. 24: the second sits till 30, from 5 on the third may wait.
        dueTill(x, 13, 10, 0, 9);
        dueTill(x, 19, 21, 10, 30);
    }

    private static void tillNone() {
        CHECK.says("TILL .. NONE: by no PATIENCE so much COIN");
        CafeTables x = waitsFor(5);
        for (int coin : new int[] {-1, 0, 8, 10, 14, 16, -9, 1000}) {
            dueTill(x, coin, 0, -9, -9);
        }
    }

    private static void tillRefused() {
        CHECK.says("TILL. OUTSIDE: what; STATE: there is no CAFE");
        CafeTables x = new CafeTables();
        for (int what = 0; what <= 2; what++) {
            CHECK.due("what " + what, x.till(0, what), -3);
        }
        CHECK.due("what 3", x.till(0, 3), -2);
        CHECK.due("what -1", x.till(0, -1), -2);
        Check.take(x, "i1");
        CHECK.due("what 3", x.till(0, 3), -2);
        CHECK.due("what -1", x.till(0, -1), -2);
        CHECK.due("any coin is told", x.till(-5, 0), 0);
    }

    /** What has been reckoned must not outlive what it was reckoned of: each call is asked ahead of each change. */
    private static void askedAgainAfterChanges() {
        CHECK.says("what is asked is of the CAFE, GROUPS and ways as they are now");
        for (int change = 0; change <= 5; change++) {
            CafeTables asked = askable();
            askAll(asked);
            CafeTables fresh = askable();
            changeBy(asked, change);
            changeBy(fresh, change);
            CHECK.due("change " + change, askAll(asked).equals(askAll(fresh)));
        }
    }

    private static CafeTables askable() {
        CafeTables x = Check.cafe("s4;i2;i2;w4");
        x.group(0, 2, 0, 30, 0, 0);
        x.group(1, 4, 2, 20, 2, 0);
        x.group(2, 4, 3, 30, 1, 0);
        x.group(0, 4, 10, 10, 0, 1);
        x.group(0, 2, 12, 10, 0, 0);
        return x;
    }

    private static void changeBy(CafeTables x, int change) {
        switch (change) {
            case 0: x.rule(1); break;
            case 1: x.patience(25); break;
            case 2: x.joining(true); break;
            case 3: x.rain(9); break;
            case 4: x.group(0, 4, 0, 60, 0, 0); break;
            default: x.cafe(0, 0, 3, 8); x.group(0, 2, 5, 20, 0, 0); break;
        }
    }

    private static String askAll(CafeTables x) {
        StringBuilder all = new StringBuilder();
        for (int what = 0; what <= 3; what++) {
            all.append(x.mix(10, what)).append(' ');
        }
        for (int q = -1; q < 6; q++) {
            all.append(x.plan(q)).append(' ').append(x.worth(q)).append(' ');
        }
        for (int what = 0; what <= 1; what++) {
            all.append(x.bestRule(what)).append(' ').append(x.waiting(what)).append(' ').append(x.taken(12, what)).append(' ');
        }
        all.append(x.till(x.coin(), 0));
        for (int g = 0; g < x.many(1); g++) {
            all.append(' ').append(Check.dayOf(x, g));
        }
        return all.toString();
    }
}
