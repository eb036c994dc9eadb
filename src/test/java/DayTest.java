/** Promises 10 to 13: day, taken, coin, worth. The rows of a day: how, table, from, till, coin, waited. */
public final class DayTest {
    private static final Check CHECK = new Check();

    public static void main(String[] args) {
        refusals();
        rules();
        coins();
        goingAndComing();
        waiting();
        waitingInOrder();
        lookedAt();
        lure();
        joining();
        rainDrivesIn();
        rainAtTwoTables();
        rainAndWaiting();
        takenByMinute();
        worths();
        CHECK.end();
    }

    private static void refusals() {
        CafeTables x = new CafeTables();
        CHECK.due("day", x.day(0, 9), -1);
        CHECK.due("taken", x.taken(0, 0), -3);
        CHECK.due("taken: outside first", x.taken(400, 0), -2);
        CHECK.due("coin", x.coin(), -3);
        CHECK.due("worth", x.worth(0), Check.LOST);
        x = Check.cafe("i2");
        x.group(0, 1, 0, 1, 0, 0);
        CHECK.due("day what", x.day(0, 6), -2);
        CHECK.due("day what", x.day(0, -1), -2);
        CHECK.due("no group", x.day(1, 6), -1);
        CHECK.due("no group", x.day(-1, 0), -1);
        CHECK.due("taken", x.taken(-1, 0), -2);
        CHECK.due("taken", x.taken(0, 2), -2);
        CHECK.due("taken", x.taken(0, -1), -2);
        CHECK.due("worth", x.worth(1), Check.LOST);
        CHECK.due("worth", x.worth(-1), Check.LOST);
    }

    private static void rules() {
        int[] size = {4, 3, 6, 5};
        int[] wants = {1, 0, 2, 1};
        int[][] due = {{0, 0, 1, 0}, {2, 3, 1, 0}, {4, 3, 1, 4}};
        for (int v = 0; v <= 2; v++) {
            for (int k = 0; k < 4; k++) {
                CafeTables x = Check.cafe("s5;w6;i4;s3;w5;i5");
                x.rule(v);
                x.group(0, size[k], 0, 10, wants[k], 0);
                CHECK.due("rule " + v + " case " + k, x.day(0, 1), due[v][k]);
            }
        }
        CafeTables x = Check.cafe("i4;i2;i2");
        x.rule(1);
        x.group(0, 2, 0, 10, 0, 0);
        CHECK.due("of several the least number", x.day(0, 1), 1);
        x.rule(2);
        CHECK.due("none where he wants: of all", x.day(0, 1), 1);
    }

    private static void coins() {
        CafeTables x = Check.cafe("i6;i6;i6");
        x.group(0, 3, 0, 19, 0, 0);
        x.group(1, 3, 0, 19, 0, 0);
        x.group(2, 3, 0, 20, 0, 0);
        CHECK.dueDay(x, 0, "0 0 0 19 18 0");
        CHECK.dueDay(x, 1, "0 1 0 38 18 0");
        CHECK.dueDay(x, 2, "0 2 0 40 21 0");
        CHECK.due("coin", x.coin(), 57);
    }

    private static void goingAndComing() {
        CafeTables x = Check.cafe("i2");
        x.group(0, 2, 5, 10, 0, 0);
        x.group(0, 1, 15, 5, 0, 0);
        x.group(0, 1, 14, 5, 0, 0);
        CHECK.dueDay(x, 0, "0 0 5 15 12 0");
        CHECK.dueDay(x, 1, "0 0 15 20 5 0");
        CHECK.dueDay(x, 2, "1 -9 -9 -9 0 0");
    }

    private static void waiting() {
        CafeTables x = Check.cafe("i2");
        x.group(0, 2, 0, 10, 0, 0);
        x.group(0, 2, 4, 10, 0, 0);
        x.patience(5);
        CHECK.dueDay(x, 1, "1 -9 -9 -9 0 5");
        x.patience(6);
        CHECK.dueDay(x, 1, "0 0 10 20 12 6");
        x.patience(30);
        CHECK.dueDay(x, 1, "0 0 10 20 12 6");
        x.patience(0);
        CHECK.dueDay(x, 1, "1 -9 -9 -9 0 0");
        x = Check.cafe("i2");
        x.group(0, 3, 4, 10, 0, 0);
        x.patience(1);
        CHECK.dueDay(x, 0, "1 -9 -9 -9 0 1");
    }

    private static void waitingInOrder() {
        CafeTables x = Check.cafe("i2");
        x.group(0, 1, 0, 10, 0, 0);
        x.group(0, 1, 3, 10, 0, 0);
        x.group(0, 1, 2, 10, 0, 0);
        x.group(0, 1, 2, 10, 0, 0);
        x.group(0, 1, 20, 10, 0, 0);
        x.patience(30);
        CHECK.dueDay(x, 2, "0 0 10 20 6 8");
        CHECK.dueDay(x, 3, "0 0 20 30 6 18");
        CHECK.dueDay(x, 1, "0 0 30 40 6 27");
        CHECK.dueDay(x, 4, "0 0 40 50 6 20");
    }

    private static void lookedAt() {
        CafeTables x = Check.cafe("i2;i1");
        x.patience(30);
        x.group(2, 2, 0, 14, 0, 0);
        x.group(2, 2, 1, 14, 0, 0);
        x.group(2, 1, 2, 14, 0, 0);
        CHECK.dueDay(x, 0, "0 0 0 28 12 0");
        CHECK.dueDay(x, 1, "0 0 28 56 12 27");
        // One who waits as he sits down, and a ninth of 28, cut, is 3.
        CHECK.dueDay(x, 2, "0 1 2 33 6 0");
        x.group(2, 2, 1, 14, 0, 0);
        CHECK.dueDay(x, 1, "0 0 28 59 12 27");
        CHECK.dueDay(x, 3, "1 -9 -9 -9 0 30");
        x.group(1, 1, 2, 14, 0, 0);
        CHECK.due("a staying one stays no longer", x.ofGroup(4, 6), 28);
    }

    private static void lure() {
        CafeTables x = Check.cafe("i2;i2;i2;i2");
        x.group(0, 1, 0, 10, 0, 1);
        x.group(0, 1, 0, 10, 0, 0);
        x.group(0, 1, 0, 10, 0, 1);
        x.group(0, 1, 0, 10, 0, 3);
        x.group(0, 1, 9, 10, 0, 2);
        x.group(0, 1, 10, 10, 0, 2);
        CHECK.dueDay(x, 0, "2 -9 -9 -9 0 0");
        CHECK.dueDay(x, 1, "0 0 0 10 6 0");
        CHECK.dueDay(x, 2, "0 1 0 10 6 0");
        CHECK.dueDay(x, 3, "2 -9 -9 -9 0 0");
        CHECK.dueDay(x, 4, "0 2 9 19 6 0");
        CHECK.dueDay(x, 5, "2 -9 -9 -9 0 0");
        x = Check.cafe("i2;i2");
        x.joining(true);
        x.group(0, 4, 0, 10, 0, 0);
        x.group(0, 1, 1, 10, 0, 2);
        CHECK.due("two tables joined are two that are taken", x.day(1, 0), 1);
    }

    private static void joining() {
        CafeTables x = Check.cafe("i2;s1;w3;i2");
        x.group(0, 4, 0, 10, 2, 0);
        x.group(0, 3, 1, 10, 2, 0);
        x.group(0, 3, 1, 10, 2, 0);
        CHECK.dueDay(x, 0, "1 -9 -9 -9 0 0");
        x.joining(true);
        for (int v = 0; v <= 2; v++) {
            x.rule(v);
            CHECK.dueDay(x, 0, "0 1 0 10 24 0");
            CHECK.dueDay(x, 1, "1 -9 -9 -9 0 0");
            CHECK.due("three people leave two taken", x.taken(5, 0), 2);
        }
        x = Check.cafe("i2;i4;i1");
        x.joining(true);
        x.group(0, 3, 0, 10, 2, 0);
        x.group(0, 3, 0, 10, 2, 0);
        CHECK.due("one table, if there is one", x.day(0, 1), 1);
        CHECK.due("not beside one another", x.day(1, 0), 1);
    }

    private static void rainDrivesIn() {
        CafeTables x = Check.cafe("s4;s2;i2;w4");
        x.group(0, 2, 0, 30, 0, 0);
        x.group(0, 2, 0, 20, 0, 0);
        x.group(0, 3, 1, 30, 0, 0);
        x.group(0, 1, 12, 30, 0, 0);
        x.group(0, 1, 30, 5, 0, 0);
        x.rain(12);
        CHECK.dueDay(x, 0, "0 0 0 30 16 0");
        CHECK.dueDay(x, 1, "0 1 0 12 12 0");
        CHECK.dueDay(x, 2, "0 3 1 31 24 0");
        CHECK.dueDay(x, 3, "1 -9 -9 -9 0 0");
        CHECK.dueDay(x, 4, "0 2 30 35 5 0");
        CHECK.due("taken before", x.taken(11, 0), 3);
        CHECK.due("taken after", x.taken(12, 0), 2);
        x.rain(20);
        CHECK.dueDay(x, 1, "0 1 0 20 14 0");
        x.rain(0);
        CHECK.dueDay(x, 0, "0 2 0 30 16 0");
        x.rain(399);
        CHECK.dueDay(x, 0, "0 0 0 30 16 0");
        CHECK.dueDay(x, 3, "0 2 12 42 8 0");
    }

    private static void rainAtTwoTables() {
        CafeTables x = Check.cafe("s2;i2;w2");
        x.joining(true);
        x.group(2, 4, 0, 20, 0, 0);
        x.rain(5);
        CHECK.dueDay(x, 0, "0 0 0 40 28 0");
        CHECK.due("at two again", x.taken(6, 0), 2);
        x.group(0, 1, 1, 20, 0, 0);
        CHECK.dueDay(x, 0, "0 0 0 5 20 0");
        CHECK.dueDay(x, 1, "0 2 1 21 7 0");
        CHECK.due("one stays", x.taken(6, 0), 1);
    }

    private static void rainAndWaiting() {
        CafeTables x = Check.cafe("s2;i2");
        x.joining(true);
        x.patience(30);
        x.group(0, 4, 0, 40, 0, 0);
        x.group(0, 2, 3, 40, 0, 0);
        x.rain(9);
        CHECK.dueDay(x, 0, "0 0 0 9 20 0");
        CHECK.dueDay(x, 1, "0 1 9 49 18 6");
        x = Check.cafe("s2;i2");
        x.patience(30);
        x.group(2, 2, 0, 20, 0, 0);
        x.group(0, 2, 0, 9, 0, 0);
        x.group(0, 2, 3, 40, 0, 0);
        x.rain(9);
        // Who goes, goes first: so the one in the sun finds a table, and stays no longer though one waits.
        CHECK.dueDay(x, 0, "0 0 0 40 14 0");
        CHECK.dueDay(x, 2, "1 -9 -9 -9 0 30");
    }

    private static void takenByMinute() {
        CafeTables x = Check.cafe("i2;i2");
        x.patience(3);
        x.group(0, 2, 1, 10, 0, 0);
        x.group(0, 2, 4, 10, 0, 0);
        x.group(0, 2, 9, 5, 0, 0);
        x.group(0, 2, 10, 1, 0, 0);
        int[][] due = {{0, 0, 0}, {1, 1, 0}, {3, 1, 0}, {4, 2, 0}, {9, 2, 1}, {10, 2, 2}, {11, 2, 1}, {12, 2, 1},
            {13, 2, 0}, {14, 1, 0}, {15, 1, 0}, {16, 0, 0}, {399, 0, 0}};
        for (int[] row : due) {
            CHECK.due("taken as " + row[0] + " ends", x.taken(row[0], 0), row[1]);
            CHECK.due("waiting as " + row[0] + " ends", x.taken(row[0], 1), row[2]);
        }
    }

    private static void worths() {
        CafeTables x = Check.cafe("i4");
        x.group(0, 1, 0, 60, 0, 0);
        x.group(0, 4, 5, 20, 0, 0);
        x.group(0, 4, 30, 20, 0, 0);
        CHECK.due("coin", x.coin(), 11);
        CHECK.due("he keeps others out", x.worth(0), 11 - 56);
        CHECK.due("nothing", x.worth(1), 0);
        CHECK.due("asked once more", x.day(0, 4), 11);
        x = Check.cafe("i4;i4");
        x.group(0, 1, 0, 60, 0, 0);
        x.group(0, 4, 5, 20, 0, 1);
        CHECK.due("he lures", x.worth(0), 11 + 28);
    }
}
