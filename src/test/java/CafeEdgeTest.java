import java.util.regex.Matcher;
import java.util.regex.Pattern;

/** Part 1 of the document and promises 1 to 7, sentence by sentence, at the edges that they name. */
public final class CafeEdgeTest {
    private static final Check CHECK = new Check();
    private static final String LONGEST = "s1;w2;i3;s4;w5;i6";
    private static final Pattern TEXT = Pattern.compile("[swi][1-6](;[swi][1-6]){0,5}");
    private static long seed = 61L;

    public static void main(String[] args) {
        newObject();
        oneToSixTables();
        numberedFromZero();
        places();
        digits();
        eachCodeInEachPlace();
        codesAreNotCutInWiderRows();
        endsTooSoon();
        seventhTable();
        againstThePattern();
        placesAreToldFromIOn();
        cellsThatAreThere();
        allAnew();
        eachWayAnew();
        notTakenLeavesAll();
        textIsReadOnce();
        tables();
        rules();
        patiences();
        joiningToldAgain();
        rains();
        withoutCafe();
        CHECK.end();
    }

    private static void newObject() {
        CHECK.says("No CAFE (no TABLES), SHEETS have nothing");
        CafeTables x = new CafeTables();
        CHECK.due("tables", x.many(0), 0);
        CHECK.due("seats", x.many(6), 0);
        CHECK.due("table 0", x.ofTable(0, 0), -1);
        CHECK.due("coin", x.coin(), -3);
        for (int k = 0; k <= 3; k++) {
            CHECK.due("put to sheet " + k, x.put(k, 0, 0), -11);
            CHECK.due("lose sheet " + k, x.lose(k), 0);
        }
    }

    private static void oneToSixTables() {
        CHECK.says("1 to 6 TABLES");
        CafeTables x = new CafeTables();
        CHECK.due("none", Check.take(x, ""), -100);
        CHECK.due("no cafe yet", x.coin(), -3);
        for (int n = 1; n <= 6; n++) {
            CHECK.due(n + " tables", Check.take(x, LONGEST.substring(0, 3 * n - 1)), n);
            CHECK.due("many", x.many(0), n);
            CHECK.due("the last is there", x.ofTable(n - 1, 1), n);
            CHECK.due("one more is not", x.ofTable(n, 1), -1);
        }
        CHECK.due("seven", Check.take(x, LONGEST + ";s1"), -117);
        CHECK.due("six stay", x.many(0), 6);
    }

    private static void numberedFromZero() {
        CHECK.says("TABLES, numbered from 0 on, with ; between");
        CafeTables x = Check.cafe(LONGEST);
        for (int t = 0; t < 6; t++) {
            CHECK.due("where " + t, x.ofTable(t, 0), t % 3);
            CHECK.due("seats " + t, x.ofTable(t, 1), t + 1);
        }
        CHECK.due("no ; between", Check.take(x, "s1w2"), -102);
        CHECK.due("a sign between", Check.take(x, "s1,w2"), -102);
        CHECK.due("two ; between", Check.take(x, "s1;;w2"), -103);
        CHECK.due("a ; ahead", Check.take(x, ";s1"), -100);
        CHECK.due("a ; behind", Check.take(x, "s1;"), -103);
    }

    private static void places() {
        CHECK.says("s (SUN), w (WINDOW) or i (INSIDE)");
        String[] texts = {"s3", "w3", "i3", "S3", "W3", "I3", "r3", "t3", "v3", "x3", "h3", "j3"};
        int[] where = {0, 1, 2, -1, -1, -1, -1, -1, -1, -1, -1, -1};
        for (int k = 0; k < texts.length; k++) {
            CafeTables x = new CafeTables();
            CHECK.due(texts[k], Check.take(x, texts[k]), where[k] < 0 ? -100 : 1);
            CHECK.due(texts[k] + " where", x.ofTable(0, 0), where[k]);
        }
    }

    private static void digits() {
        CHECK.says("a digit 1 .. 6 (SEATS)");
        for (int code = '0' - 1; code <= '9' + 1; code++) {
            CafeTables x = new CafeTables();
            boolean is = code >= '1' && code <= '6';
            CHECK.due("w" + (char) code, Check.take(x, "w" + (char) code), is ? 1 : -101);
            CHECK.due("its seats", x.ofTable(0, 1), is ? code - '0' : -1);
        }
    }

    private static void eachCodeInEachPlace() {
        CHECK.says("the place of the first code with which no TEXT goes on");
        for (int place = 0; place <= LONGEST.length(); place++) {
            String right = place == LONGEST.length() ? "" : new String[] {"swi", "123456", ";"}[place % 3];
            for (int code = -128; code <= 127; code++) {
                CafeTables x = new CafeTables();
                x.sheet(1, 0, place + 1);
                for (int i = 0; i < place; i++) {
                    x.put(1, i, LONGEST.charAt(i));
                }
                x.put(1, place, code);
                boolean goesOn = code >= 0 && right.indexOf(code) >= 0;
                int want = !goesOn ? -100 - place : place % 3 == 1 ? place / 3 + 1 : -101 - place;
                CHECK.due("code " + code + " in place " + place, x.cafe(1, 0, 0, place + 1), want);
            }
        }
    }

    private static void codesAreNotCutInWiderRows() {
        CHECK.says("Codes: s 115, w 119, i 105, ; 59, digits 48 .. 57");
        int[] codes = {105, 54, 59, 115, 49};
        for (int sort = 0; sort <= 2; sort++) {
            for (int place = 0; place < codes.length; place++) {
                for (int more : new int[] {256, -256, 65536, -65536, 1 << 24, Integer.MIN_VALUE}) {
                    CafeTables x = new CafeTables();
                    x.sheet(2, sort, codes.length);
                    for (int i = 0; i < codes.length; i++) {
                        x.put(2, i, codes[i] + (i == place ? more : 0));
                    }
                    boolean cutAway = sort == 0 || sort == 1 && (short) more == 0;
                    CHECK.due(more + " more in place " + place, x.cafe(2, sort, 0, 5), cutAway ? 2 : -100 - place);
                }
            }
        }
    }

    private static void endsTooSoon() {
        CHECK.says("how many codes there are, if it just ends too soon");
        for (int n = 0; n <= LONGEST.length(); n++) {
            CafeTables x = new CafeTables();
            int want = n % 3 == 2 ? (n + 1) / 3 : -100 - n;
            CHECK.due(n + " codes", Check.take(x, LONGEST.substring(0, n)), want);
        }
    }

    private static void seventhTable() {
        CHECK.says("the ; of a seventh TABLE");
        String[] texts = {LONGEST + ";", LONGEST + ";s1", LONGEST + ";s1;w2", LONGEST + ";x", LONGEST + "x", LONGEST + "1"};
        for (String text : texts) {
            CafeTables x = Check.cafe("i2");
            CHECK.due(text, Check.take(x, text), -117);
            CHECK.due("the cafe stays", x.many(0), 1);
        }
    }

    private static int pick(int n) {
        seed = seed * 6364136223846793005L + 1442695040888963407L;
        return (int) ((seed >>> 33) % n);
    }

    private static boolean begins(String part) {
        Matcher m = TEXT.matcher(part);
        return m.matches() || m.hitEnd();
    }

    private static int dueOf(String text) {
        for (int n = 1; n <= text.length(); n++) {
            if (!begins(text.substring(0, n))) {
                return -100 - (n - 1);
            }
        }
        return TEXT.matcher(text).matches() ? (text.length() + 1) / 3 : -100 - text.length();
    }

    private static void againstThePattern() {
        CHECK.says("FIRST FAULT, of 4000 texts, against a pattern");
        for (int k = 0; k < 4000; k++) {
            StringBuilder text = new StringBuilder();
            for (int t = pick(9); t > 0; t--) {
                text.append("swi".charAt(pick(3))).append((char) ('1' + pick(6))).append(t > 1 ? ";" : "");
            }
            for (int wrong = pick(3); wrong > 0 && text.length() > 0; wrong--) {
                text.setCharAt(pick(text.length()), "swi;0123456789 S".charAt(pick(16)));
            }
            text.setLength(pick(4) == 0 ? pick(text.length() + 1) : text.length());
            CHECK.due(text.toString(), Check.take(new CafeTables(), text.toString()), dueOf(text.toString()));
        }
    }

    private static void placesAreToldFromIOn() {
        CHECK.says("a TEXT of n cells of a SHEET from i on; the place (from 0 on)");
        CafeTables x = new CafeTables();
        Check.take(x, "xx;s3;i4;w");
        CHECK.due("in the midst", x.cafe(0, 0, 3, 5), 2);
        CHECK.due("its first", x.ofTable(0, 1), 3);
        CHECK.due("its second", x.ofTable(1, 0), 2);
        CHECK.due("at once wrong", x.cafe(0, 0, 2, 5), -100);
        CHECK.due("wrong behind the first", x.cafe(0, 0, 6, 4), -104);
        CHECK.due("n codes alone are read", x.cafe(0, 0, 3, 2), 1);
        CHECK.due("ends too soon though more cells follow", x.cafe(0, 0, 3, 3), -103);
        CHECK.due("no codes", x.cafe(0, 0, 3, 0), -100);
    }

    private static void cellsThatAreThere() {
        CHECK.says("INDEX: not all cells are there");
        CafeTables x = Check.cafe("s2;w4");
        int[][] there = {{0, 5, 2}, {0, 2, 1}, {3, 2, 1}, {4, 1, -100}, {5, 0, -100}, {0, 0, -100}};
        for (int[] a : there) {
            CHECK.due("cells " + a[0] + ", " + a[1], x.cafe(0, 0, a[0], a[1]), a[2]);
            CHECK.due("no fault", x.fault(), 0);
        }
        int[][] beyond = {{0, 6}, {1, 5}, {3, 3}, {5, 1}, {6, 0}, {6, 1}, {-1, 0}, {-1, 1}, {-1, 6}, {-3, 5}, {40, 0}, {41, 0}};
        for (int[] a : beyond) {
            CHECK.due("cells " + a[0] + ", " + a[1], x.cafe(0, 0, a[0], a[1]), -13);
            CHECK.due("fault", x.fault(), 3);
        }
        CHECK.says("INDEX .. of cells from i on also where i is not 0 .. how many there are, if none of them is taken, too");
        x.sheet(1, 0, 0);
        CHECK.due("none of none", x.cafe(1, 0, 0, 0), -100);
        CHECK.due("none behind none", x.cafe(1, 0, 1, 0), -13);
        CHECK.due("one of none", x.cafe(1, 0, 0, 1), -13);
    }

    private static CafeTables full() {
        CafeTables x = Check.cafe("s2;w4;i6");
        x.rule(2);
        x.patience(30);
        x.joining(true);
        x.rain(0);
        for (int g = 0; g < 8; g++) {
            x.group(g % 3, 1 + g % 6, g, 10, g % 3, 0);
        }
        return x;
    }

    private static void allAnew() {
        CHECK.says("A TEXT that is taken makes all anew: no GROUPS, RULE 0, PATIENCE 0, no JOINING, no RAIN");
        CafeTables x = full();
        x.coin();
        x.plan(-1);
        x.waiting(0);
        x.mix(8, 0);
        CHECK.due("the same text", x.cafe(0, 0, 0, 8), 3);
        int[] many = {3, 0, 0, 0, 0, -9, 12};
        for (int what = 0; what <= 6; what++) {
            CHECK.due("many " + what, x.many(what), many[what]);
        }
        CHECK.due("no group", x.ofGroup(0, 0), -1);
        CHECK.due("no group's day", x.day(0, 0), -1);
        CHECK.due("no coin", x.coin(), 0);
        CHECK.due("nobody's worth", x.worth(0), Check.LOST);
        CHECK.due("no plan", x.plan(-1), 0);
        CHECK.due("nobody planned", x.plan(0), -1);
        CHECK.due("nobody waits for it", x.waiting(0), 0);
        CHECK.due("no coin of a mix", x.mix(8, 0), 0);
        CHECK.due("nobody at table", x.taken(5, 0), 0);
        CHECK.due("nobody tells", x.tell(0), -1);
        for (int g = 0; g < 8; g++) {
            CHECK.due("groups from 0 on, and 8 again", x.group(0, 1, g, 1, 0, 0), g);
        }
        CHECK.due("full again", x.group(0, 1, 0, 1, 0, 0), -4);
    }

    /** Each way is told anew in what the day brings, too, not in many() alone. */
    private static void eachWayAnew() {
        CHECK.says("A TEXT that is taken makes all anew, in the DAY, too");
        CafeTables x = Check.cafe("i6;i2");
        x.rule(1);
        Check.take(x, "i6;i2");
        x.group(0, 2, 0, 10, 0, 0);
        CHECK.due("rule 0 sits at the first", x.day(0, 1), 0);
        x.patience(9);
        Check.take(x, "i2");
        x.group(0, 3, 0, 10, 0, 0);
        CHECK.due("patience 0 waits for nothing", x.day(0, 5), 0);
        x.joining(true);
        Check.take(x, "i2;i2");
        x.group(0, 4, 0, 10, 0, 0);
        CHECK.due("no tables are joined", x.day(0, 0), 1);
        x.rain(0);
        Check.take(x, "s2");
        x.group(0, 2, 0, 10, 0, 0);
        CHECK.due("no rain shuts the sun", x.day(0, 1), 0);
    }

    private static void notTakenLeavesAll() {
        CHECK.says("-100 less the FIRST FAULT: a TEXT that is not taken changes nothing");
        String before = Check.stateOf(full());
        String[] texts = {"", "x", "s2;w4;i6;", "s2;w4;i", LONGEST + ";s1"};
        for (String text : texts) {
            CafeTables x = full();
            CHECK.due("refused " + text, Check.take(x, text) <= -100);
            CHECK.due("all stays by " + text, before.equals(Check.stateOf(x)));
        }
    }

    private static void textIsReadOnce() {
        CHECK.says("A CAFE by a TEXT: what later becomes of the SHEET does not change it");
        CafeTables x = Check.cafe("s2;w4");
        x.put(0, 0, 'i');
        x.put(0, 1, '6');
        CHECK.due("where", x.ofTable(0, 0), 0);
        CHECK.due("seats", x.ofTable(0, 1), 2);
        x.sheet(0, 2, 0);
        x.lose(0);
        CHECK.due("tables", x.many(0), 2);
        CHECK.due("seats in all", x.many(6), 6);
    }

    private static void tables() {
        CHECK.says("Of a TABLE: 0 where, 1 SEATS. UNKNOWN; OUTSIDE");
        CafeTables x = Check.cafe("w6");
        CHECK.due("what 0", x.ofTable(0, 0), 1);
        CHECK.due("what 1", x.ofTable(0, 1), 6);
        CHECK.due("what 2", x.ofTable(0, 2), -2);
        CHECK.due("what -1", x.ofTable(0, -1), -2);
        CHECK.due("table -1", x.ofTable(-1, 0), -1);
        CHECK.due("table 1", x.ofTable(1, 1), -1);
        CHECK.due("unknown is told first", x.ofTable(1, 2), -1);
        x = Check.cafe(LONGEST);
        CHECK.due("table 5", x.ofTable(5, 1), 6);
        CHECK.due("table 6", x.ofTable(6, 1), -1);
        Check.take(x, "i4");
        CHECK.due("table 1 is no more", x.ofTable(1, 0), -1);
    }

    private static void rules() {
        CHECK.says("RULE becomes v (0 .. 2): what it was");
        CafeTables x = Check.cafe("i6");
        int[] told = {0, 2, 2, 1, 0};
        int was = 0;
        for (int v : told) {
            CHECK.due("rule " + v, x.rule(v), was);
            CHECK.due("it is", x.many(2), v);
            was = v;
        }
        x.rule(1);
        for (int v : new int[] {-1, 3, -9}) {
            CHECK.due("rule " + v, x.rule(v), -2);
            CHECK.due("it stays", x.many(2), 1);
        }
    }

    private static void patiences() {
        CHECK.says("PATIENCE becomes v (0 .. 30): what it was");
        CafeTables x = Check.cafe("i6");
        int[] told = {0, 30, 30, 29, 1, 0};
        int was = 0;
        for (int v : told) {
            CHECK.due("patience " + v, x.patience(v), was);
            CHECK.due("it is", x.many(3), v);
            was = v;
        }
        x.patience(30);
        for (int v : new int[] {-1, 31, -9}) {
            CHECK.due("patience " + v, x.patience(v), -2);
            CHECK.due("it stays", x.many(3), 30);
        }
    }

    private static void joiningToldAgain() {
        CHECK.says("JOINING is told (true), or not: 1; 0: it was so");
        CafeTables x = Check.cafe("i6");
        boolean[] told = {false, true, true, false, false, true};
        int[] answers = {0, 1, 0, 1, 0, 1};
        for (int k = 0; k < told.length; k++) {
            CHECK.due("joining " + told[k], x.joining(told[k]), answers[k]);
            CHECK.due("it is", x.many(4), told[k] ? 1 : 0);
        }
        Check.take(x, "i6");
        CHECK.due("of a new cafe it is not told", x.joining(false), 0);
    }

    private static void rains() {
        CHECK.says("RAIN begins in a minute (0 .. 399); NONE: in none: 1");
        CafeTables x = Check.cafe("i6");
        for (int m : new int[] {-9, 0, 0, 1, 398, 399, -9}) {
            CHECK.due("rain " + m, x.rain(m), 1);
            CHECK.due("it is", x.many(5), m);
        }
        x.rain(399);
        for (int m : new int[] {-1, -2, -8, -10, 400}) {
            CHECK.due("rain " + m, x.rain(m), -2);
            CHECK.due("it stays", x.many(5), 399);
        }
    }

    private static void withoutCafe() {
        CHECK.says("STATE: there is no CAFE (1 the cafe)");
        CafeTables x = new CafeTables();
        for (int v = 0; v <= 2; v++) {
            CHECK.due("rule " + v, x.rule(v), -3);
        }
        CHECK.due("patience 0", x.patience(0), -3);
        CHECK.due("patience 30", x.patience(30), -3);
        CHECK.due("joining", x.joining(true), -3);
        CHECK.due("not joining", x.joining(false), -3);
        CHECK.due("rain 0", x.rain(0), -3);
        CHECK.due("rain 399", x.rain(399), -3);
        CHECK.due("no rain", x.rain(-9), -3);
        CHECK.says("OUTSIDE; STATE: in that order");
        CHECK.due("rule", x.rule(3), -2);
        CHECK.due("patience", x.patience(31), -2);
        CHECK.due("rain", x.rain(400), -2);
        CHECK.says("refusals change nothing");
        Check.take(x, "i1");
        int[] many = {1, 0, 0, 0, 0, -9, 1};
        for (int what = 0; what <= 6; what++) {
            CHECK.due("many " + what, x.many(what), many[what]);
        }
    }
}
