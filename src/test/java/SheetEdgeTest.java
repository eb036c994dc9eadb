/** Part 6 of the document and promises 21 to 31, sentence by sentence, at the edges that they name. */
public final class SheetEdgeTest {
    private static final Check CHECK = new Check();

    public static void main(String[] args) {
        sheetsNoughtToThree();
        rowsOfNoughtToForty();
        lengthBelowNought();
        sortsNoughtToTwo();
        numbersAreNoughtAtFirst();
        aNewRow();
        cutToItsSort();
        firstAndLastCell();
        cellTakenAsASort();
        loses();
        copyOntoItself();
        copyOverlapping();
        copyOfNoCells();
        copyAtTheEnd();
        copyIsACopy();
        copyNulls();
        copyCasts();
        copyIndexes();
        copyUnknown();
        tells();
        served();
        traceWraps();
        asEachKind();
        asRefused();
        manyOfEachWhat();
        CHECK.end();
    }

    private static void sheetsNoughtToThree() {
        CHECK.says("SHEETS 0 .. 3");
        CafeTables x = new CafeTables();
        for (int k = -1; k <= 4; k++) {
            boolean is = k >= 0 && k <= 3;
            CHECK.due("sheet " + k, x.sheet(k, 2, 1), is ? 1 : -1);
            CHECK.due("put to " + k, x.put(k, 0, 70 + k), is ? 1 : -1);
        }
        for (int k = -1; k <= 4; k++) {
            boolean is = k >= 0 && k <= 3;
            CHECK.due("cell of " + k, x.cell(k, 0, 2), is ? 70 + k : Check.LOST);
            CHECK.due("copy from " + k, x.copy(k, 0, 0, 0, 0), is ? 0 : -1);
            CHECK.due("copy to " + k, x.copy(0, 0, k, 0, 0), is ? 0 : -1);
            CHECK.due("cafe of " + k, x.cafe(k, 2, 0, 0), is ? -100 : -1);
        }
        for (int k = -1; k <= 4; k++) {
            CHECK.due("lose " + k, x.lose(k), k >= 0 && k <= 3 ? 1 : -1);
        }
    }

    private static void rowsOfNoughtToForty() {
        CHECK.says("a row of 0 .. 40 numbers");
        for (int n : new int[] {0, 1, 39, 40}) {
            for (int sort = 0; sort <= 2; sort++) {
                CafeTables x = new CafeTables();
                CHECK.due("row of " + n, x.sheet(0, sort, n), 1);
                CHECK.due("one behind the last", x.put(0, n, 1), -13);
                CHECK.due("the last", x.put(0, n - 1, 1), n == 0 ? -13 : 1);
                CHECK.due("it is something", x.lose(0), 1);
            }
        }
        CHECK.says("OUTSIDE: n above 40");
        CafeTables x = new CafeTables();
        CHECK.due("41", x.sheet(0, 0, 41), -2);
        CHECK.due("still nothing", x.put(0, 0, 1), -11);
        x.sheet(0, 0, 2);
        CHECK.due("41", x.sheet(0, 2, 41), -2);
        CHECK.due("the row stays", x.put(0, 1, 1), 1);
        CHECK.due("of its sort", x.cell(0, 1, 0), 1);
    }

    private static void lengthBelowNought() {
        CHECK.says("SIZE (a length below 0)");
        CafeTables x = new CafeTables();
        CHECK.due("-1", x.sheet(0, 0, -1), -14);
        CHECK.due("fault", x.fault(), 4);
        CHECK.due("still nothing", x.lose(0), 0);
        x.sheet(1, 1, 3);
        x.put(1, 2, 9);
        CHECK.due("-1", x.sheet(1, 0, -1), -14);
        CHECK.due("the row stays", x.cell(1, 2, 1), 9);
        CHECK.due("sort is told first", x.sheet(1, 3, -1), -2);
        CHECK.due("no fault", x.fault(), 0);
        CHECK.due("unknown is told first", x.sheet(4, 0, -1), -1);
        CHECK.due("of a text", x.cafe(1, 1, 0, -1), -14);
        CHECK.due("fault", x.fault(), 4);
    }

    private static void sortsNoughtToTwo() {
        CHECK.says("of a SORT: 0 bytes, 1 shorts, 2 ints");
        CafeTables x = new CafeTables();
        for (int sort = -1; sort <= 3; sort++) {
            boolean is = sort >= 0 && sort <= 2;
            CHECK.due("row of sort " + sort, x.sheet(0, sort, 1), is ? 1 : -2);
            CHECK.due("no fault", x.fault(), 0);
        }
        CHECK.due("cell as sort -1", x.cell(0, 0, -1), Check.LOST);
        CHECK.due("no fault", x.fault(), 0);
        CHECK.due("cell as sort 3", x.cell(0, 0, 3), Check.LOST);
        CHECK.due("no fault", x.fault(), 0);
        CHECK.due("text as sort -1", x.cafe(0, -1, 0, 1), -2);
        CHECK.due("text as sort 3", x.cafe(0, 3, 0, 1), -2);
        CHECK.due("no fault", x.fault(), 0);
    }

    private static void numbersAreNoughtAtFirst() {
        CHECK.says("a row of numbers (0 at first)");
        CafeTables x = new CafeTables();
        x.sheet(3, 2, 40);
        CHECK.dueRow(x, 3, 2, new int[40]);
    }

    private static void aNewRow() {
        CHECK.says("A SHEET gets a new row: 1");
        for (int sort = 0; sort <= 2; sort++) {
            CafeTables x = new CafeTables();
            x.sheet(2, sort, 40);
            for (int i = 0; i < 40; i++) {
                x.put(2, i, i + 1);
            }
            CHECK.due("shorter", x.sheet(2, sort, 2), 1);
            CHECK.dueRow(x, 2, sort, 0, 0);
            CHECK.due("it ends", x.put(2, 2, 1), -13);
            CHECK.due("longer again", x.sheet(2, sort, 40), 1);
            CHECK.dueRow(x, 2, sort, new int[40]);
            x.put(2, 0, 5);
            x.lose(2);
            x.sheet(2, sort, 1);
            CHECK.due("after nothing, too", x.cell(2, 0, sort), 0);
        }
    }

    private static void cutToItsSort() {
        CHECK.says("what comes to a cell of it is cut to its SORT");
        int[] values = {0, 1, -1, 127, 128, 255, 256, -128, -129, 32767, 32768, 65535, 65536, -32768, -32769, 8388608,
            Integer.MAX_VALUE, Integer.MIN_VALUE};
        int[] bytes = {0, 1, -1, 127, -128, -1, 0, -128, 127, -1, 0, -1, 0, 0, -1, 0, -1, 0};
        int[] shorts = {0, 1, -1, 127, 128, 255, 256, -128, -129, 32767, -32768, -1, 0, -32768, 32767, 0, -1, 0};
        CafeTables x = new CafeTables();
        for (int sort = 0; sort <= 2; sort++) {
            x.sheet(sort, sort, values.length);
            for (int i = 0; i < values.length; i++) {
                CHECK.due("put " + values[i], x.put(sort, i, values[i]), 1);
            }
        }
        CHECK.dueRow(x, 0, 0, bytes);
        CHECK.dueRow(x, 1, 1, shorts);
        CHECK.dueRow(x, 2, 2, values);
    }

    private static void firstAndLastCell() {
        CHECK.says("Cell i of a SHEET becomes v: 1. UNKNOWN; NULL; INDEX");
        CafeTables x = new CafeTables();
        x.sheet(0, 1, 3);
        int[][] due = {{-1, -13}, {0, 1}, {2, 1}, {3, -13}, {39, -13}, {40, -13}};
        for (int[] d : due) {
            CHECK.due("put to cell " + d[0], x.put(0, d[0], 10 + d[0]), d[1]);
            CHECK.due("fault", x.fault(), d[1] == 1 ? 0 : 3);
            CHECK.due("cell " + d[0], x.cell(0, d[0], 1), d[1] == 1 ? 10 + d[0] : Check.LOST);
            CHECK.due("fault", x.fault(), d[1] == 1 ? 0 : 3);
        }
        CHECK.dueRow(x, 0, 1, 10, 0, 12);
        CHECK.due("null is come to first", x.put(1, -1, 0), -11);
        CHECK.due("fault", x.fault(), 1);
        CHECK.due("unknown is told first", x.put(4, -1, 0), -1);
        CHECK.due("no fault", x.fault(), 0);
    }

    private static void cellTakenAsASort() {
        CHECK.says("taken as a row of a SORT .. FAULTS CAST (nothing is no CAST), NULL, INDEX");
        CafeTables x = new CafeTables();
        for (int has = 0; has <= 2; has++) {
            x.sheet(has, has, 2);
            x.put(has, 1, 5);
            for (int as = 0; as <= 2; as++) {
                boolean is = has == as;
                CHECK.due("sort " + has + " as " + as, x.cell(has, 1, as), is ? 5 : Check.LOST);
                CHECK.due("fault", x.fault(), is ? 0 : 2);
                CHECK.due("sort " + has + " as " + as + ", no such cell", x.cell(has, 2, as), Check.LOST);
                CHECK.due("cast is come to first", x.fault(), is ? 3 : 2);
                CHECK.due("text of sort " + has + " as " + as, x.cafe(has, as, 9, 1), is ? -13 : -12);
                CHECK.due("nothing", x.cell(3, 0, as), Check.LOST);
                CHECK.due("nothing is no cast", x.fault(), 1);
                CHECK.due("nothing, no such cell", x.cell(3, -1, as), Check.LOST);
                CHECK.due("null is come to first", x.fault(), 1);
            }
        }
        CHECK.due("a row of none is cast, too", x.sheet(3, 1, 0), 1);
        CHECK.due("as bytes", x.cell(3, 0, 0), Check.LOST);
        CHECK.due("fault", x.fault(), 2);
        CHECK.due("sort is told ahead of faults", x.cell(3, 0, 3), Check.LOST);
        CHECK.due("no fault", x.fault(), 0);
    }

    private static void loses() {
        CHECK.says("A SHEET has nothing: 1; 0: it had nothing. UNKNOWN");
        CafeTables x = new CafeTables();
        for (int k = 0; k <= 3; k++) {
            CHECK.due("at first", x.lose(k), 0);
            x.sheet(k, 0, 0);
            CHECK.due("a row of none", x.lose(k), 1);
            CHECK.due("lost", x.lose(k), 0);
        }
        CHECK.due("sheet -1", x.lose(-1), -1);
        CHECK.due("sheet 4", x.lose(4), -1);
        x.sheet(0, 0, 1);
        x.sheet(1, 0, 1);
        x.lose(0);
        CHECK.due("the others stay", x.put(1, 0, 1), 1);
    }

    /** A row 1 .. n of a sort on a sheet. */
    private static CafeTables row(int k, int sort, int n) {
        CafeTables x = new CafeTables();
        x.sheet(k, sort, n);
        for (int i = 0; i < n; i++) {
            x.put(k, i, i + 1);
        }
        return x;
    }

    private static void copyOntoItself() {
        CHECK.says("n cells of a SHEET from i on go to another one (perhaps the same)");
        CafeTables x = row(1, 2, 5);
        CHECK.due("all onto themselves", x.copy(1, 0, 1, 0, 5), 5);
        CHECK.due("some onto themselves", x.copy(1, 2, 1, 2, 2), 2);
        CHECK.dueRow(x, 1, 2, 1, 2, 3, 4, 5);
        CHECK.due("apart", x.copy(1, 0, 1, 3, 2), 2);
        CHECK.dueRow(x, 1, 2, 1, 2, 3, 1, 2);
    }

    private static void copyOverlapping() {
        CHECK.says("as they were: overlapping, upward");
        CafeTables x = row(1, 0, 6);
        CHECK.due("by one", x.copy(1, 0, 1, 1, 5), 5);
        CHECK.dueRow(x, 1, 0, 1, 1, 2, 3, 4, 5);
        x = row(1, 1, 6);
        CHECK.due("by two", x.copy(1, 1, 1, 3, 3), 3);
        CHECK.dueRow(x, 1, 1, 1, 2, 3, 2, 3, 4);
        CHECK.says("as they were: overlapping, downward");
        x = row(1, 2, 6);
        CHECK.due("by one", x.copy(1, 1, 1, 0, 5), 5);
        CHECK.dueRow(x, 1, 2, 2, 3, 4, 5, 6, 6);
        x = row(1, 2, 6);
        CHECK.due("by two", x.copy(1, 3, 1, 1, 3), 3);
        CHECK.dueRow(x, 1, 2, 1, 4, 5, 6, 5, 6);
    }

    private static void copyOfNoCells() {
        CHECK.says("n cells .. go: of none, 0");
        CafeTables x = row(1, 2, 3);
        x.sheet(2, 2, 0);
        int[][] fine = {{0, 0}, {3, 0}, {1, 0}};
        for (int[] a : fine) {
            CHECK.due("none from " + a[0], x.copy(1, a[0], 2, a[1], 0), 0);
            CHECK.due("no fault", x.fault(), 0);
            CHECK.due("none to " + a[0], x.copy(2, a[1], 1, a[0], 0), 0);
        }
        CHECK.due("none of none", x.copy(2, 0, 2, 0, 0), 0);
        CHECK.dueRow(x, 1, 2, 1, 2, 3);
        CHECK.says("INDEX .. where i is not 0 .. how many there are, if none of them is taken, too");
        int[][] wrong = {{4, 0}, {-1, 0}, {0, 1}, {0, -1}};
        for (int[] a : wrong) {
            CHECK.due("none from " + a[0] + " to " + a[1], x.copy(1, a[0], 2, a[1], 0), -13);
            CHECK.due("fault", x.fault(), 3);
        }
    }

    private static void copyAtTheEnd() {
        CHECK.says("INDEX: i, j, n below 0 or beyond: the last cells are not beyond");
        CafeTables x = row(0, 1, 40);
        x.sheet(1, 1, 40);
        CHECK.due("the last", x.copy(0, 39, 1, 39, 1), 1);
        CHECK.due("is there", x.cell(1, 39, 1), 40);
        CHECK.due("one beyond the source", x.copy(0, 39, 1, 0, 2), -13);
        CHECK.due("one beyond the target", x.copy(0, 0, 1, 39, 2), -13);
        CHECK.due("behind the source", x.copy(0, 40, 1, 0, 1), -13);
        CHECK.due("behind the target", x.copy(0, 0, 1, 40, 1), -13);
        CHECK.due("all", x.copy(0, 0, 1, 0, 40), 40);
        CHECK.due("the last is there", x.cell(1, 39, 1), 40);
        CHECK.due("one more than all", x.copy(0, 0, 1, 0, 41), -13);
        CHECK.says("a FAULT changes nothing: no cell has gone");
        x = row(0, 1, 4);
        CHECK.due("too many", x.copy(0, 0, 0, 1, 4), -13);
        CHECK.dueRow(x, 0, 1, 1, 2, 3, 4);
    }

    private static void copyIsACopy() {
        CHECK.says("cells go .. as they were: the first SHEET keeps its own");
        CafeTables x = row(0, 1, 3);
        x.sheet(1, 1, 3);
        x.copy(0, 0, 1, 0, 3);
        x.put(0, 0, 99);
        x.put(1, 1, 77);
        CHECK.dueRow(x, 0, 1, 99, 2, 3);
        CHECK.dueRow(x, 1, 1, 1, 77, 3);
    }

    private static void copyNulls() {
        CHECK.says("FAULTS NULL (the first, the other), CAST, INDEX: in that order");
        CafeTables x = row(0, 1, 3);
        CHECK.due("the first is nothing", x.copy(1, -1, 0, -1, -1), -11);
        CHECK.due("fault", x.fault(), 1);
        x.cell(0, 0, 0);
        CHECK.due("the other is nothing", x.copy(0, -1, 1, -1, -1), -11);
        CHECK.due("fault", x.fault(), 1);
        CHECK.due("both", x.copy(1, 0, 2, 0, 0), -11);
        CHECK.due("the same", x.copy(3, 0, 3, 0, 0), -11);
    }

    private static void copyCasts() {
        CHECK.says("CAST (unlike SORTS)");
        CafeTables x = new CafeTables();
        for (int sort = 0; sort <= 2; sort++) {
            x.sheet(sort, sort, 2);
        }
        for (int from = 0; from <= 2; from++) {
            for (int to = 0; to <= 2; to++) {
                CHECK.due("from " + from + " to " + to, x.copy(from, 0, to, 0, 1), from == to ? 1 : -12);
                CHECK.due("fault", x.fault(), from == to ? 0 : 2);
                CHECK.due("cast ahead of index", x.copy(from, 0, to, 0, 3), from == to ? -13 : -12);
                CHECK.due("cast, of none too", x.copy(from, 2, to, 2, 0), from == to ? 0 : -12);
            }
        }
    }

    private static void copyIndexes() {
        CHECK.says("INDEX: i, j, n below 0 or beyond");
        CafeTables x = row(0, 0, 3);
        x.sheet(1, 0, 5);
        int[][] wrong = {{-1, 0, 1}, {0, -1, 1}, {0, 0, -1}, {3, 0, 1}, {0, 5, 1}, {0, 0, 4}, {1, 0, 3}, {0, 3, 3}, {4, 0, 0}, {0, 6, 0},
            {-1, -1, -1}, {1, 1, -1}, {3, 5, -1}};
        for (int[] a : wrong) {
            CHECK.due("i " + a[0] + ", j " + a[1] + ", n " + a[2], x.copy(0, a[0], 1, a[1], a[2]), -13);
            CHECK.due("fault", x.fault(), 3);
        }
        int[][] fine = {{0, 0, 3}, {0, 2, 3}, {3, 5, 0}, {2, 4, 1}, {0, 0, 0}};
        for (int[] a : fine) {
            CHECK.due("i " + a[0] + ", j " + a[1] + ", n " + a[2], x.copy(0, a[0], 1, a[1], a[2]), a[2]);
            CHECK.due("no fault", x.fault(), 0);
        }
    }

    private static void copyUnknown() {
        CHECK.says("copy: UNKNOWN; FAULTS: in that order");
        CafeTables x = new CafeTables();
        for (int k : new int[] {-1, 4}) {
            x.put(0, 0, 0);
            CHECK.due("the first is " + k, x.copy(k, -1, 0, -1, -1), -1);
            CHECK.due("no fault", x.fault(), 0);
            x.put(0, 0, 0);
            CHECK.due("the other is " + k, x.copy(0, -1, k, -1, -1), -1);
            CHECK.due("no fault", x.fault(), 0);
        }
    }

    private static CafeTables ofEachKind(int size) {
        CafeTables x = Check.cafe("s2");
        for (int kind = 0; kind <= 2; kind++) {
            x.group(kind, size, 0, 1, 0, 0);
        }
        return x;
    }

    private static void tells() {
        CHECK.says("GUEST (1): SIZE. STAYING (2): what GUEST's gives, and 100. LOOKED (3): what STAYING's gives, and what GUEST's gives");
        int[] traces = {1, 2 * 31 + 1, ((3 * 31 + 2) * 31 + 1) * 31 + 1};
        for (int size = 1; size <= 6; size += 5) {
            int[] due = {size, size + 100, size + 100 + size};
            for (int g = 0; g <= 2; g++) {
                CafeTables x = ofEachKind(size);
                CHECK.due("kind " + g, x.tell(g), due[g]);
                CHECK.due("trace of kind " + g, x.trace(), traces[g]);
            }
        }
        CHECK.says("TELLING of a GROUP. UNKNOWN");
        CafeTables x = ofEachKind(1);
        CHECK.due("group -1", x.tell(-1), -1);
        CHECK.due("group 3", x.tell(3), -1);
        CHECK.due("without a cafe", new CafeTables().tell(0), -1);
        CHECK.due("no trace", x.trace(), 0);
    }

    private static void served() {
        CHECK.says("SERVED by a lent body (4): its number; LOOKED at ones have their own (5): 50");
        CafeTables x = Check.cafe("s2");
        for (int g = 0; g < 8; g++) {
            x.group(g % 3, 3, 0, 1, 0, 0);
        }
        int trace = 0;
        for (int g = 0; g < 8; g++) {
            CHECK.due("group " + g, x.serve(g), g % 3 == 2 ? 50 : g);
            trace = 31 * trace + (g % 3 == 2 ? 5 : 4);
            CHECK.due("trace", x.trace(), trace);
        }
        CHECK.says("How it is SERVED. UNKNOWN");
        CHECK.due("group -1", x.serve(-1), -1);
        CHECK.due("group 8", x.serve(8), -1);
        CHECK.due("without a cafe", new CafeTables().serve(0), -1);
        CHECK.due("no trace more", x.trace(), trace);
    }

    private static void traceWraps() {
        CHECK.says("TRACE (an int that wraps, 0 at first, becomes 31 times it and the number)");
        CafeTables x = ofEachKind(1);
        CHECK.due("at first", x.trace(), 0);
        // The seventh would be 4585435685, which is 290468389 and 2 to the power of 32.
        int[] due = {5, 160, 4965, 153920, 4771525, 147917280, 290468389, 414585472, -32752251};
        for (int k = 0; k < due.length; k++) {
            x.serve(2);
            CHECK.due("after " + (k + 1), x.trace(), due[k]);
            CHECK.due("asked again", x.trace(), due[k]);
        }
        CHECK.says("TRACE is left by a new TEXT as it was");
        int before = x.trace();
        Check.take(x, "i1");
        CHECK.due("trace", x.trace(), before);
    }

    private static void asEachKind() {
        CHECK.says("CAST: it is none (each is a GUEST, too; a LOOKED at one is STAYING)");
        int[][] due = {{1, -12, -12}, {1, 1, -12}, {1, 1, 1}};
        CafeTables x = ofEachKind(1);
        for (int g = 0; g <= 2; g++) {
            for (int kind = 0; kind <= 2; kind++) {
                CHECK.due("of kind " + g + " as " + kind, x.as(g, kind), due[g][kind]);
                CHECK.due("fault", x.fault(), due[g][kind] == 1 ? 0 : 2);
                CHECK.due("the kind stays", x.ofGroup(g, 0), g);
            }
        }
    }

    private static void asRefused() {
        CHECK.says("A GROUP, taken as one of a kind: 1. UNKNOWN; OUTSIDE; CAST");
        CafeTables x = ofEachKind(1);
        int[][] due = {{0, -1, -2}, {0, 3, -2}, {-1, 0, -1}, {3, 0, -1}, {-1, 3, -1}, {3, -1, -1}};
        for (int[] d : due) {
            x.as(0, 2);
            CHECK.due("as(" + d[0] + ", " + d[1] + ")", x.as(d[0], d[1]), d[2]);
            CHECK.due("no fault", x.fault(), 0);
        }
        CHECK.due("without a cafe", new CafeTables().as(0, 3), -1);
    }

    private static void dueMany(CafeTables x, int... want) {
        for (int what = 0; what <= 6; what++) {
            CHECK.due("many " + what, x.many(what), want[what]);
        }
        CHECK.due("many -1", x.many(-1), -2);
        CHECK.due("many 7", x.many(7), -2);
    }

    private static void manyOfEachWhat() {
        CHECK.says("How many: 0 TABLES .. 6 SEATS in all (2 .. 4: 0 without a CAFE). OUTSIDE");
        CafeTables x = new CafeTables();
        dueMany(x, 0, 0, 0, 0, 0, -9, 0);
        Check.take(x, "s1");
        dueMany(x, 1, 0, 0, 0, 0, -9, 1);
        x.rule(2);
        x.patience(30);
        x.joining(true);
        x.rain(399);
        dueMany(x, 1, 0, 2, 30, 1, 399, 1);
        x.rain(0);
        x.group(0, 1, 0, 1, 0, 0);
        dueMany(x, 1, 1, 2, 30, 1, 0, 1);
        Check.take(x, "s6;s6;s6;w6;w6;i6");
        for (int g = 0; g < 9; g++) {
            x.group(0, 1, 0, 1, 0, 0);
        }
        dueMany(x, 6, 8, 0, 0, 0, -9, 36);
    }
}
