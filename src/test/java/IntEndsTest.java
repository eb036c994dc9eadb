/** The least and the greatest int in every place of every call: what is answered, and that nothing is changed. */
public final class IntEndsTest {
    private static final Check CHECK = new Check();
    private static final long LOST = Check.LOST;
    private static final int MIN = Integer.MIN_VALUE;
    private static final int MAX = Integer.MAX_VALUE;

    public static void main(String[] args) {
        for (int end : new int[] {MIN, MIN + 1, MAX - 1, MAX}) {
            withoutCafe(end);
            CafeTables x = busy();
            cafe(x, end);
            groups(x, end);
            day(x, end);
            best(x, end);
            names(x, end);
            sheets(x, end);
            copies(x, end);
            parts(x, end);
            CHECK.says("nothing is changed by any of them: end " + end);
            CHECK.due("state", Check.stateOf(x).equals(Check.stateOf(busy())));
            for (int k = 0; k <= 2; k++) {
                CHECK.dueRow(x, k, k, 's', '2', ';');
            }
        }
        putsTheEnds();
        CHECK.end();
    }

    /** Bytes on sheet 0, shorts on 1, ints on 2, nothing on 3. */
    private static CafeTables busy() {
        CafeTables x = new CafeTables();
        for (int k = 2; k >= 0; k--) {
            Check.take(x, k, k, "s2;w4;i6");
        }
        x.patience(5);
        x.group(0, 2, 0, 30, 0, 0);
        x.group(1, 3, 1, 30, 0, 0);
        x.group(2, 4, 2, 30, 0, 0);
        return x;
    }

    private static void withoutCafe(int e) {
        CHECK.says("ends of int without a CAFE: " + e);
        CafeTables x = new CafeTables();
        CHECK.due("rule", x.rule(e), -2);
        CHECK.due("patience", x.patience(e), -2);
        CHECK.due("rain", x.rain(e), -2);
        CHECK.due("group", x.group(e, e, e, e, e, e), -2);
        CHECK.due("taken", x.taken(e, e), -2);
        CHECK.due("plan", x.plan(e), -1);
        CHECK.due("best rule", x.bestRule(e), -2);
        CHECK.due("waiting", x.waiting(e), -2);
        CHECK.due("mix", x.mix(e, e), -2);
        CHECK.due("till", x.till(e, e), -2);
        CHECK.due("till", x.till(e, 0), -3);
        CHECK.due("day", x.day(e, e), -1);
        CHECK.due("worth", x.worth(e), LOST);
        CHECK.due("table", x.ofTable(e, e), -1);
        CHECK.due("group", x.ofGroup(e, e), -1);
        CHECK.due("put", x.put(0, e, e), -11);
        CHECK.due("copy", x.copy(0, e, 0, e, e), -11);
        CHECK.due("cafe", x.cafe(0, 0, e, e), -11);
    }

    private static void cafe(CafeTables x, int e) {
        CHECK.says("ends of int, 1 the cafe: " + e);
        CHECK.due("cafe, sheet", x.cafe(e, 0, 0, 8), -1);
        CHECK.due("cafe, sort", x.cafe(0, e, 0, 8), -2);
        for (int n : new int[] {0, 1, 8}) {
            CHECK.due("cafe, i, n " + n, x.cafe(0, 0, e, n), -13);
        }
        CHECK.due("cafe, i and n that is -1", x.cafe(0, 0, e, -1), -14);
        for (int i : new int[] {-1, 0, 1, 8, 9}) {
            CHECK.due("cafe, n, i " + i, x.cafe(0, 0, i, e), e < 0 ? -14 : -13);
        }
        CHECK.due("cafe, i and n", x.cafe(0, 0, e, e), e < 0 ? -14 : -13);
        CHECK.due("cafe, i and the other end", x.cafe(0, 0, e, ~e), e < 0 ? -13 : -14);
        CHECK.due("cafe, all", x.cafe(e, e, e, e), -1);
        CHECK.due("table", x.ofTable(e, 0), -1);
        CHECK.due("table, what", x.ofTable(0, e), -2);
        CHECK.due("table, both", x.ofTable(e, e), -1);
        CHECK.due("rule", x.rule(e), -2);
        CHECK.due("patience", x.patience(e), -2);
        CHECK.due("rain", x.rain(e), -2);
    }

    private static void groups(CafeTables x, int e) {
        CHECK.says("ends of int, 2 groups: " + e);
        for (int k = 0; k < 6; k++) {
            int[] a = {0, 1, 0, 1, 0, 0};
            a[k] = e;
            CHECK.due("group, place " + k, x.group(a[0], a[1], a[2], a[3], a[4], a[5]), -2);
        }
        CHECK.due("group, all", x.group(e, e, e, e, e, e), -2);
        CHECK.due("of group", x.ofGroup(e, 0), -1);
        CHECK.due("of group, what", x.ofGroup(0, e), -2);
        CHECK.due("of group, both", x.ofGroup(e, e), -1);
    }

    private static void day(CafeTables x, int e) {
        CHECK.says("ends of int, 3 the day: " + e);
        CHECK.due("day", x.day(e, 0), -1);
        CHECK.due("day, what", x.day(0, e), -2);
        CHECK.due("day, both", x.day(e, e), -1);
        CHECK.due("taken", x.taken(e, 0), -2);
        CHECK.due("taken, what", x.taken(0, e), -2);
        CHECK.due("taken, both", x.taken(e, e), -2);
        CHECK.due("worth", x.worth(e), LOST);
    }

    private static void best(CafeTables x, int e) {
        CHECK.says("ends of int, 4 the best: " + e);
        CHECK.due("plan", x.plan(e), -1);
        CHECK.due("best rule", x.bestRule(e), -2);
        CHECK.due("waiting", x.waiting(e), -2);
        CHECK.due("mix, s", x.mix(e, 0), -2);
        CHECK.due("mix, what", x.mix(24, e), -2);
        CHECK.due("till, coin: how many", x.till(e, 0), 0);
        CHECK.due("till, coin: the least", x.till(e, 1), -9);
        CHECK.due("till, coin: the greatest", x.till(e, 2), -9);
        CHECK.due("till, what", x.till(0, e), -2);
        CHECK.due("till, both", x.till(e, e), -2);
    }

    private static void names(CafeTables x, int e) {
        CHECK.says("ends of int, 5 names: " + e);
        for (int k = 0; k < 6; k++) {
            int[] a = {1, 1, 1, 1, 1, 1};
            a[k] = e;
            CHECK.due("names, place " + k, x.names(a[0], a[1], a[2], a[3], a[4], a[5]), LOST);
            if (k < 4) {
                CHECK.due("take, place " + k, x.take(a[0], a[1], a[2], a[3]), -2);
            }
        }
        CHECK.due("names, all", x.names(e, e, e, e, e, e), LOST);
        CHECK.due("take, all", x.take(e, e, e, e), -2);
    }

    private static void sheets(CafeTables x, int e) {
        CHECK.says("ends of int, 6 sheets: " + e);
        CHECK.due("sheet", x.sheet(e, 0, 1), -1);
        CHECK.due("sheet, sort", x.sheet(0, e, 1), -2);
        CHECK.due("sheet, n", x.sheet(0, 0, e), e < 0 ? -14 : -2);
        CHECK.due("its fault", x.fault(), e < 0 ? 4 : 0);
        CHECK.due("sheet, sort and n", x.sheet(0, e, e), -2);
        CHECK.due("sheet, all", x.sheet(e, e, e), -1);
        CHECK.due("lose", x.lose(e), -1);
        CHECK.due("put", x.put(e, 0, 1), -1);
        CHECK.due("put, i", x.put(0, e, 1), -13);
        CHECK.due("put, i and v", x.put(2, e, e), -13);
        CHECK.due("put, i, to nothing", x.put(3, e, e), -11);
        CHECK.due("put, all", x.put(e, e, e), -1);
        long[][] faults = {{e, 0, 0, 0}, {0, e, 0, 3}, {0, 0, e, 0}, {0, e, 1, 2}, {3, e, 0, 1}, {e, e, e, 0}};
        for (long[] a : faults) {
            CHECK.due("cell", x.cell((int) a[0], (int) a[1], (int) a[2]), LOST);
            CHECK.due("its fault", x.fault(), a[3]);
        }
    }

    private static void copies(CafeTables x, int e) {
        CHECK.says("ends of int, copy: " + e);
        CHECK.due("the first", x.copy(e, 0, 0, 0, 1), -1);
        CHECK.due("the other", x.copy(0, 0, e, 0, 1), -1);
        int[] few = {0, 1, 8};
        for (int n : few) {
            CHECK.due("i, n " + n, x.copy(0, e, 0, 0, n), -13);
            CHECK.due("j, n " + n, x.copy(0, 0, 0, e, n), -13);
            CHECK.due("n from " + n, x.copy(0, n, 0, 0, e), -13);
            CHECK.due("n to " + n, x.copy(0, 0, 0, n, e), -13);
        }
        CHECK.due("i and n", x.copy(0, e, 0, 0, e), -13);
        CHECK.due("i and the other end", x.copy(0, e, 0, 0, ~e), -13);
        CHECK.due("j and n", x.copy(0, 0, 0, e, e), -13);
        CHECK.due("j and the other end", x.copy(0, 0, 0, e, ~e), -13);
        CHECK.due("i, j and n", x.copy(0, e, 0, e, e), -13);
        CHECK.due("unlike sorts", x.copy(0, e, 1, e, e), -12);
        CHECK.due("to nothing", x.copy(0, e, 3, e, e), -11);
        CHECK.due("all", x.copy(e, e, e, e, e), -1);
    }

    private static void parts(CafeTables x, int e) {
        CHECK.says("ends of int, parts: " + e);
        CHECK.due("tell", x.tell(e), -1);
        CHECK.due("serve", x.serve(e), -1);
        CHECK.due("as", x.as(e, 0), -1);
        CHECK.due("as, kind", x.as(0, e), -2);
        CHECK.due("as, both", x.as(e, e), -1);
        CHECK.due("many", x.many(e), -2);
        CHECK.due("trace", x.trace(), 0);
    }

    private static void putsTheEnds() {
        CHECK.says("what comes to a cell is cut to its SORT: the ends of int");
        CafeTables x = busy();
        for (int k = 0; k <= 2; k++) {
            CHECK.due("put the least", x.put(k, 0, MIN), 1);
            CHECK.due("put the greatest", x.put(k, 7, MAX), 1);
            CHECK.due("the least, sort " + k, x.cell(k, 0, k), k == 2 ? MIN : 0);
            CHECK.due("the greatest, sort " + k, x.cell(k, 7, k), k == 2 ? MAX : -1);
        }
        CHECK.due("a text with the least", x.cafe(2, 2, 0, 8), -100);
        CHECK.due("a text with the greatest", x.cafe(2, 2, 3, 5), -104);
    }
}
