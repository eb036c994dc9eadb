/** Counts the answers that are not as due; a test ends with end(), which exits with 1 if there was one. */
final class Check {
    static final long LOST = Long.MIN_VALUE;
    private int asked;
    private int wrong;
    private String sentence = "";

    /** The sentence of the document that the answers from here on hold to: it stands ahead of what is not as due. */
    void says(String words) {
        sentence = "'" + words + "': ";
    }

    void due(String call, long got, long want) {
        asked++;
        if (got != want) {
            wrong++;
            System.out.println(sentence + call + " answered " + got + ", due is " + want);
        }
    }

    void due(String call, boolean is) {
        asked++;
        if (!is) {
            wrong++;
            System.out.println(sentence + "not so: " + call);
        }
    }

    void end() {
        System.out.println(asked + " answers, " + wrong + " not as due");
        if (wrong != 0 || asked == 0) {
            System.exit(1);
        }
    }

    /** A cafe by a text, told on a row of bytes in sheet 0. */
    static CafeTables cafe(String text) {
        CafeTables x = new CafeTables();
        take(x, text);
        return x;
    }

    static int take(CafeTables x, String text) {
        return take(x, 0, 0, text);
    }

    static int take(CafeTables x, int k, int sort, String text) {
        x.sheet(k, sort, text.length());
        for (int i = 0; i < text.length(); i++) {
            x.put(k, i, text.charAt(i));
        }
        return x.cafe(k, sort, 0, text.length());
    }

    /** All that day() tells of a group, as one text. */
    static String dayOf(CafeTables x, int g) {
        StringBuilder row = new StringBuilder();
        for (int what = 0; what <= 5; what++) {
            row.append(what == 0 ? "" : " ").append(x.day(g, what));
        }
        return row.toString();
    }

    void dueDay(CafeTables x, int g, String want) {
        String got = dayOf(x, g);
        asked++;
        if (!got.equals(want)) {
            wrong++;
            System.out.println(sentence + "the day of group " + g + " is " + got + ", due is " + want);
        }
    }

    /** Whether the cells of a sheet, from the first on, are these. */
    void dueRow(CafeTables x, int k, int sort, int... want) {
        for (int i = 0; i < want.length; i++) {
            due("cell " + i + " of sheet " + k, x.cell(k, i, sort), want[i]);
        }
    }

    /** All that can be asked of an object without changing it (fault() apart). */
    static String stateOf(CafeTables x) {
        StringBuilder all = new StringBuilder();
        for (int what = 0; what <= 6; what++) {
            all.append(x.many(what)).append(' ');
        }
        for (int t = 0; t < 6; t++) {
            all.append(x.ofTable(t, 0)).append(' ').append(x.ofTable(t, 1)).append(' ');
        }
        for (int g = 0; g < 8; g++) {
            for (int what = 0; what <= 6; what++) {
                all.append(x.ofGroup(g, what)).append(' ');
            }
        }
        return all.append(x.coin()).append(' ').append(x.trace()).toString();
    }

    /** What the sheets have; this sets fault(). */
    static String sheetsOf(CafeTables x) {
        StringBuilder all = new StringBuilder();
        for (int k = 0; k < 4; k++) {
            for (int sort = 0; sort < 3; sort++) {
                for (int i = 0; i <= 40; i++) {
                    all.append(x.cell(k, i, sort)).append(' ').append(x.fault()).append(' ');
                }
            }
        }
        return all.toString();
    }
}
