/** Promises 21 to 25 and 30: sheet, lose, put, cell, copy, and the fault() they leave. */
public final class SheetTest {
    private static final Check CHECK = new Check();
    private static final int[] FAR = {-1, 4, Integer.MIN_VALUE, Integer.MAX_VALUE};

    public static void main(String[] args) {
        sheets();
        loses();
        puts();
        cells();
        copies();
        copiesRefused();
        faultStays();
        CHECK.end();
    }

    private static void sheets() {
        CafeTables x = new CafeTables();
        for (int k : FAR) {
            CHECK.due("unknown first", x.sheet(k, 3, 41), -1);
        }
        CHECK.due("sort", x.sheet(0, 3, -1), -2);
        CHECK.due("sort", x.sheet(0, -1, 1), -2);
        CHECK.due("above 40", x.sheet(0, 0, 41), -2);
        CHECK.due("above 40", x.sheet(0, 0, Integer.MAX_VALUE), -2);
        CHECK.due("size", x.sheet(0, 0, -1), -14);
        CHECK.due("fault", x.fault(), 4);
        CHECK.due("size", x.sheet(0, 0, Integer.MIN_VALUE), -14);
        CHECK.due("still nothing", x.lose(0), 0);
        CHECK.due("an empty row", x.sheet(0, 0, 0), 1);
        CHECK.due("fault", x.fault(), 0);
        CHECK.due("is something", x.lose(0), 1);
        CHECK.due("forty", x.sheet(3, 2, 40), 1);
        for (int i = 0; i < 40; i++) {
            CHECK.due("0 at first", x.cell(3, i, 2), 0);
            x.put(3, i, i + 1);
        }
        CHECK.due("a new row", x.sheet(3, 1, 40), 1);
        for (int i = 0; i < 40; i++) {
            CHECK.due("0 again", x.cell(3, i, 1), 0);
        }
        x.put(3, 0, 5);
        CHECK.due("refused", x.sheet(3, 1, -1), -14);
        CHECK.due("the row stays", x.cell(3, 0, 1), 5);
    }

    private static void loses() {
        CafeTables x = new CafeTables();
        for (int k : FAR) {
            CHECK.due("unknown", x.lose(k), -1);
        }
        x.sheet(2, 0, 1);
        CHECK.due("it had one", x.lose(2), 1);
        CHECK.due("it had nothing", x.lose(2), 0);
        CHECK.due("null", x.put(2, 0, 0), -11);
    }

    private static void puts() {
        CafeTables x = new CafeTables();
        for (int k : FAR) {
            CHECK.due("unknown", x.put(k, 0, 0), -1);
        }
        CHECK.due("null ahead of index", x.put(0, -1, 0), -11);
        CHECK.due("fault", x.fault(), 1);
        x.sheet(0, 0, 3);
        CHECK.due("index", x.put(0, -1, 0), -13);
        CHECK.due("index", x.put(0, 3, 0), -13);
        CHECK.due("fault", x.fault(), 3);
        CHECK.due("index", x.put(0, Integer.MAX_VALUE, 0), -13);
        CHECK.due("put", x.put(0, 2, 300), 1);
        CHECK.due("fault", x.fault(), 0);
        int[] values = {127, 128, 255, 256, -129, 32767, 32768, 65535, 65536, -32769, Integer.MIN_VALUE, Integer.MAX_VALUE};
        x.sheet(1, 1, 3);
        x.sheet(2, 2, 3);
        for (int v : values) {
            for (int k = 0; k < 3; k++) {
                CHECK.due("put", x.put(k, 1, v), 1);
            }
            CHECK.due("byte of " + v, x.cell(0, 1, 0), (byte) v);
            CHECK.due("short of " + v, x.cell(1, 1, 1), (short) v);
            CHECK.due("int of " + v, x.cell(2, 1, 2), v);
        }
    }

    private static void cells() {
        CafeTables x = new CafeTables();
        x.sheet(0, 0, 3);
        for (int k : FAR) {
            x.put(0, 9, 9);
            CHECK.due("unknown", x.cell(k, 0, 0), Check.LOST);
            CHECK.due("refused, so no fault", x.fault(), 0);
        }
        x.put(0, 9, 9);
        CHECK.due("sort", x.cell(0, 9, 3), Check.LOST);
        CHECK.due("refused, so no fault", x.fault(), 0);
        CHECK.due("sort", x.cell(0, 0, -1), Check.LOST);
        CHECK.due("cast ahead of index", x.cell(0, 9, 1), Check.LOST);
        CHECK.due("fault", x.fault(), 2);
        CHECK.due("null is no cast", x.cell(1, 9, 1), Check.LOST);
        CHECK.due("fault", x.fault(), 1);
        CHECK.due("index", x.cell(0, 3, 0), Check.LOST);
        CHECK.due("fault", x.fault(), 3);
        CHECK.due("index", x.cell(0, -1, 0), Check.LOST);
        CHECK.due("fault", x.fault(), 3);
        CHECK.due("a cell", x.cell(0, 2, 0), 0);
        CHECK.due("fault", x.fault(), 0);
    }

    private static void fill(CafeTables x, int k, int n) {
        for (int i = 0; i < n; i++) {
            x.put(k, i, 10 * k + i);
        }
    }

    private static void dueRow(CafeTables x, int k, int sort, int[] want) {
        for (int i = 0; i < want.length; i++) {
            CHECK.due("cell " + i + " of " + k, x.cell(k, i, sort), want[i]);
        }
    }

    private static void copies() {
        CafeTables x = new CafeTables();
        x.sheet(1, 2, 6);
        x.sheet(2, 2, 4);
        fill(x, 1, 6);
        fill(x, 2, 4);
        CHECK.due("two", x.copy(1, 4, 2, 1, 2), 2);
        dueRow(x, 2, 2, new int[] {20, 14, 15, 23});
        CHECK.due("up, as they were", x.copy(1, 0, 1, 1, 5), 5);
        dueRow(x, 1, 2, new int[] {10, 10, 11, 12, 13, 14});
        CHECK.due("down, as they were", x.copy(1, 1, 1, 0, 5), 5);
        dueRow(x, 1, 2, new int[] {10, 11, 12, 13, 14, 14});
        CHECK.due("none", x.copy(1, 6, 2, 4, 0), 0);
        CHECK.due("fault", x.fault(), 0);
        CHECK.due("all", x.copy(2, 0, 1, 2, 4), 4);
        dueRow(x, 1, 2, new int[] {10, 11, 20, 14, 15, 23});
        x.put(2, 0, 99);
        CHECK.due("they are no longer one", x.cell(1, 2, 2), 20);
    }

    private static void copiesRefused() {
        CafeTables x = new CafeTables();
        for (int k : FAR) {
            CHECK.due("unknown", x.copy(k, 0, 0, 0, -1), -1);
            CHECK.due("unknown", x.copy(0, 0, k, 0, -1), -1);
        }
        x.sheet(0, 0, 3);
        x.sheet(1, 1, 5);
        x.sheet(2, 0, 5);
        CHECK.due("null, the first", x.copy(3, 0, 0, 0, -1), -11);
        CHECK.due("null, the other", x.copy(0, 0, 3, 0, -1), -11);
        CHECK.due("fault", x.fault(), 1);
        CHECK.due("cast ahead of index", x.copy(0, 0, 1, 0, -1), -12);
        CHECK.due("cast though none are taken", x.copy(0, 0, 1, 0, 0), -12);
        CHECK.due("fault", x.fault(), 2);
        int big = Integer.MAX_VALUE;
        int[][] wrong = {{-1, 0, 1}, {0, -1, 1}, {0, 0, -1}, {0, 0, 4}, {3, 0, 1}, {4, 0, 0}, {0, 6, 0}, {0, 4, 2},
            {-1, 0, 0}, {0, -1, 0}, {big, 0, 1}, {0, big, 1}, {0, 0, big}, {big, big, big}, {1, 1, big}};
        for (int[] w : wrong) {
            CHECK.due("index " + w[0] + " " + w[1] + " " + w[2], x.copy(0, w[0], 2, w[1], w[2]), -13);
            CHECK.due("fault", x.fault(), 3);
        }
        CHECK.due("to the last", x.copy(0, 0, 2, 2, 3), 3);
    }

    /** Only a call that names a fault sets it anew. */
    private static void faultStays() {
        CafeTables x = Check.cafe("i2");
        x.group(0, 1, 0, 1, 0, 0);
        CHECK.due("index", x.put(0, 9, 0), -13);
        x.lose(1);
        x.lose(9);
        x.rule(9);
        x.coin();
        x.tell(0);
        x.serve(5);
        x.many(0);
        x.group(0, 1, 0, 1, 0, 0);
        x.names(0, 0, 0, 0, 0, 9);
        CHECK.due("it stays", x.fault(), 3);
        CHECK.due("asked again", x.fault(), 3);
        CHECK.due("as", x.as(0, 0), 1);
        CHECK.due("none", x.fault(), 0);
        CHECK.due("cast", x.as(0, 1), -12);
        CHECK.due("fault", x.fault(), 2);
        CHECK.due("refused", x.as(9, 1), -1);
        CHECK.due("none", x.fault(), 0);
        x.as(0, 2);
        CHECK.due("refused", x.as(0, 3), -2);
        CHECK.due("none", x.fault(), 0);
        x.as(0, 2);
        CHECK.due("refused", x.sheet(0, 0, 41), -2);
        CHECK.due("none", x.fault(), 0);
        x.as(0, 2);
        CHECK.due("refused", x.copy(0, 0, 9, 0, 0), -1);
        CHECK.due("none", x.fault(), 0);
    }
}
