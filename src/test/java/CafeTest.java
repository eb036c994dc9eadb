/** Promises 1 to 7: a new object, cafe, ofTable, rule, patience, joining, rain. */
public final class CafeTest {
    private static final Check CHECK = new Check();

    public static void main(String[] args) {
        newObject();
        texts();
        firstFaults();
        faultsOfCafe();
        sorts();
        partOfSheet();
        allAnew();
        ofTable();
        ways();
        waysWithoutCafe();
        CHECK.end();
    }

    private static void newObject() {
        CafeTables x = new CafeTables();
        CHECK.due("no tables", x.many(0), 0);
        CHECK.due("no groups", x.many(1), 0);
        CHECK.due("no rain", x.many(5), -9);
        CHECK.due("trace", x.trace(), 0);
        CHECK.due("fault", x.fault(), 0);
        for (int k = 0; k < 4; k++) {
            CHECK.due("sheet " + k + " had nothing", x.lose(k), 0);
        }
    }

    private static void texts() {
        CafeTables x = new CafeTables();
        CHECK.due("s1", Check.take(x, "s1"), 1);
        CHECK.due("w6;i3", Check.take(x, "w6;i3"), 2);
        CHECK.due("six", Check.take(x, "s1;w2;i3;s4;w5;i6"), 6);
        CHECK.due("seats in all", x.many(6), 21);
    }

    private static void firstFaults() {
        String[] texts = {"", "s", "s1;", "s1;w", "S1", "s0", "s7", "s:", "x2", ";", "1s", "s1w2", "s1 ;w2",
            "s12", "s1;;", "s1;w2;i3;s4;w5;i6;", "s1;w2;i3;s4;w5;i6;s1", "s1;w2;i3;s4;w5;i6x", "s1;w2;i3;s4;w5;i", " s1"};
        int[] places = {0, 1, 3, 4, 0, 1, 1, 1, 0, 0, 0, 2, 2, 2, 3, 17, 17, 17, 16, 0};
        for (int k = 0; k < texts.length; k++) {
            CafeTables x = Check.cafe("i4");
            x.rule(2);
            CHECK.due("cafe " + texts[k], Check.take(x, texts[k]), -100 - places[k]);
            CHECK.due("a wrong text is no fault", x.fault(), 0);
            CHECK.due("the tables stay", x.many(0), 1);
            CHECK.due("the rule stays", x.many(2), 2);
        }
    }

    private static void faultsOfCafe() {
        CafeTables x = Check.cafe("s2;w4");
        int[] noSheets = {-1, 4, Integer.MIN_VALUE, Integer.MAX_VALUE};
        for (int k : noSheets) {
            CHECK.due("no sheet ahead of sort", x.cafe(k, 3, -1, -1), -1);
        }
        CHECK.due("sort ahead of cast", x.cafe(0, 3, -1, -1), -2);
        CHECK.due("sort", x.cafe(0, -1, 0, 2), -2);
        CHECK.due("cast ahead of size", x.cafe(0, 1, -1, -1), -12);
        CHECK.due("fault", x.fault(), 2);
        CHECK.due("nothing is no cast, null ahead of size", x.cafe(1, 1, -1, -1), -11);
        CHECK.due("fault", x.fault(), 1);
        CHECK.due("size ahead of index", x.cafe(0, 0, -1, -1), -14);
        CHECK.due("fault", x.fault(), 4);
        CHECK.due("index", x.cafe(0, 0, -1, 2), -13);
        CHECK.due("fault", x.fault(), 3);
        CHECK.due("refused, so no fault", x.cafe(9, 0, 0, 2), -1);
        CHECK.due("fault", x.fault(), 0);
        int[][] beyond = {{0, 6}, {5, 1}, {6, 0}, {-1, 0}, {4, Integer.MAX_VALUE}, {Integer.MAX_VALUE, 1},
            {Integer.MAX_VALUE, Integer.MAX_VALUE}, {Integer.MIN_VALUE, 0}};
        for (int[] b : beyond) {
            CHECK.due("index " + b[0] + " " + b[1], x.cafe(0, 0, b[0], b[1]), -13);
        }
        CHECK.due("none behind the last are there", x.cafe(0, 0, 5, 0), -100);
        CHECK.due("fault", x.fault(), 0);
        CHECK.due("the cafe stays", x.many(0), 2);
    }

    private static void sorts() {
        for (int sort = 0; sort <= 2; sort++) {
            CafeTables x = new CafeTables();
            x.sheet(3, sort, 2);
            x.put(3, 0, 'w' + 256);
            x.put(3, 1, '5');
            CHECK.due("cut in sort " + sort, x.cafe(3, sort, 0, 2), sort == 0 ? 1 : -100);
            x.put(3, 0, 'w' + 65536);
            CHECK.due("cut in sort " + sort, x.cafe(3, sort, 0, 2), sort == 2 ? -100 : 1);
            x.put(3, 0, 'w');
            CHECK.due("plain in sort " + sort, x.cafe(3, sort, 0, 2), 1);
        }
    }

    private static void partOfSheet() {
        CafeTables x = Check.cafe("s1;w2;i3");
        CHECK.due("from 3 on", x.cafe(0, 0, 3, 5), 2);
        CHECK.due("where", x.ofTable(0, 0), 1);
        CHECK.due("seats", x.ofTable(1, 1), 3);
        CHECK.due("places are told from i on", x.cafe(0, 0, 1, 2), -100);
        CHECK.due("places are told from i on", x.cafe(0, 0, 3, 3), -103);
    }

    private static void allAnew() {
        CafeTables x = Check.cafe("s1;w2");
        x.rule(1);
        x.patience(9);
        x.joining(true);
        x.rain(7);
        x.group(0, 1, 0, 1, 0, 0);
        x.tell(0);
        int[] before = {2, 1, 1, 9, 1, 7, 3};
        for (int what = 0; what <= 6; what++) {
            CHECK.due("many " + what, x.many(what), before[what]);
        }
        CHECK.due("anew", Check.take(x, "i6"), 1);
        int[] after = {1, 0, 0, 0, 0, -9, 6};
        for (int what = 0; what <= 6; what++) {
            CHECK.due("many " + what, x.many(what), after[what]);
        }
        CHECK.due("its group is gone", x.ofGroup(0, 0), -1);
        CHECK.due("coin is gone", x.coin(), 0);
        CHECK.due("trace stays", x.trace(), 1);
        CHECK.due("groups are numbered anew", x.group(0, 1, 0, 1, 0, 0), 0);
        CHECK.due("the sheet stays", x.cell(0, 0, 0), 'i');
    }

    private static void ofTable() {
        CafeTables x = Check.cafe("i6;s1;w3");
        int[][] tables = {{2, 6}, {0, 1}, {1, 3}};
        for (int t = 0; t < 3; t++) {
            CHECK.due("where " + t, x.ofTable(t, 0), tables[t][0]);
            CHECK.due("seats " + t, x.ofTable(t, 1), tables[t][1]);
            CHECK.due("what 2", x.ofTable(t, 2), -2);
            CHECK.due("what -1", x.ofTable(t, -1), -2);
        }
        CHECK.due("no table", x.ofTable(3, 0), -1);
        CHECK.due("no table ahead of what", x.ofTable(-1, 9), -1);
    }

    private static void ways() {
        CafeTables x = Check.cafe("i6");
        CHECK.due("rule", x.rule(2), 0);
        CHECK.due("rule", x.rule(1), 2);
        CHECK.due("rule 3", x.rule(3), -2);
        CHECK.due("rule -1", x.rule(-1), -2);
        CHECK.due("rule stays", x.many(2), 1);
        CHECK.due("patience", x.patience(30), 0);
        CHECK.due("patience", x.patience(4), 30);
        CHECK.due("patience 31", x.patience(31), -2);
        CHECK.due("patience -1", x.patience(-1), -2);
        CHECK.due("patience stays", x.many(3), 4);
        CHECK.due("it was so", x.joining(false), 0);
        CHECK.due("told", x.joining(true), 1);
        CHECK.due("it was so", x.joining(true), 0);
        CHECK.due("joining is told", x.many(4), 1);
        CHECK.due("no longer", x.joining(false), 1);
        CHECK.due("not told", x.many(4), 0);
        CHECK.due("rain", x.rain(0), 1);
        CHECK.due("rain", x.rain(399), 1);
        CHECK.due("rain again", x.rain(399), 1);
        int[] wrong = {-1, -8, -10, 400, Integer.MAX_VALUE, Integer.MIN_VALUE};
        for (int m : wrong) {
            CHECK.due("rain " + m, x.rain(m), -2);
        }
        CHECK.due("rain stays", x.many(5), 399);
        CHECK.due("no rain", x.rain(-9), 1);
        CHECK.due("none", x.many(5), -9);
    }

    private static void waysWithoutCafe() {
        CafeTables x = new CafeTables();
        CHECK.due("rule: outside first", x.rule(3), -2);
        CHECK.due("rule", x.rule(2), -3);
        CHECK.due("patience: outside first", x.patience(31), -2);
        CHECK.due("patience", x.patience(1), -3);
        CHECK.due("joining", x.joining(false), -3);
        CHECK.due("rain: outside first", x.rain(400), -2);
        CHECK.due("rain", x.rain(-9), -3);
        int[] none = {0, 0, 0, 0, 0, -9, 0};
        for (int what = 0; what <= 6; what++) {
            CHECK.due("many " + what, x.many(what), none[what]);
        }
    }
}
