/** Promises 8 and 9: group, ofGroup. */
public final class GroupTest {
    private static final Check CHECK = new Check();

    public static void main(String[] args) {
        edges();
        withoutCafe();
        full();
        stays();
        CHECK.end();
    }

    private static void edges() {
        int[] least = {0, 1, 0, 1, 0, 0};
        int[] greatest = {2, 6, 99, 60, 2, 6};
        for (int k = 0; k < 6; k++) {
            CafeTables x = Check.cafe("i6");
            int[] a = least.clone();
            a[k] = greatest[k];
            CHECK.due("greatest " + k, group(x, a), 0);
            CHECK.due("told " + k, x.ofGroup(0, k), greatest[k]);
            a[k] = greatest[k] + 1;
            CHECK.due("above " + k, group(x, a), -2);
            a[k] = least[k] - 1;
            CHECK.due("below " + k, group(x, a), -2);
            a[k] = Integer.MIN_VALUE;
            CHECK.due("far below " + k, group(x, a), -2);
            CHECK.due("one group", x.many(1), 1);
        }
    }

    private static int group(CafeTables x, int[] a) {
        return x.group(a[0], a[1], a[2], a[3], a[4], a[5]);
    }

    private static void withoutCafe() {
        CafeTables x = new CafeTables();
        CHECK.due("outside first", x.group(0, 0, 0, 1, 0, 0), -2);
        CHECK.due("no cafe", x.group(0, 1, 0, 1, 0, 0), -3);
        CHECK.due("no group", x.ofGroup(0, 9), -1);
    }

    private static void full() {
        CafeTables x = Check.cafe("i6");
        for (int g = 0; g < 8; g++) {
            CHECK.due("number", x.group(g % 3, 1 + g % 6, 99 - g, 1 + g, g % 3, g % 7), g);
        }
        CHECK.due("outside ahead of full", x.group(3, 1, 0, 1, 0, 0), -2);
        CHECK.due("full", x.group(0, 1, 0, 1, 0, 0), -4);
        CHECK.due("eight", x.many(1), 8);
        for (int g = 0; g < 8; g++) {
            int[] want = {g % 3, 1 + g % 6, 99 - g, 1 + g, g % 3, g % 7};
            for (int what = 0; what < 6; what++) {
                CHECK.due("of group " + g + " " + what, x.ofGroup(g, what), want[what]);
            }
            CHECK.due("what 7", x.ofGroup(g, 7), -2);
            CHECK.due("what -1", x.ofGroup(g, -1), -2);
        }
        CHECK.due("unknown first", x.ofGroup(8, 7), -1);
        CHECK.due("unknown", x.ofGroup(-1, 0), -1);
    }

    private static void stays() {
        CafeTables x = Check.cafe("i6");
        for (int kind = 0; kind < 3; kind++) {
            x.group(kind, 1, 0, 45, 0, 0);
            CHECK.due("stays, kind " + kind, x.ofGroup(kind, 6), kind == 0 ? 45 : 90);
        }
    }
}
