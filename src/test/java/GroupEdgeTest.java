/** Part 2 of the document and promises 8 and 9, sentence by sentence, at the edges that they name. */
public final class GroupEdgeTest {
    private static final Check CHECK = new Check();

    public static void main(String[] args) {
        eightEver();
        refusedOnesAreNotCounted();
        numberedAsTheyCome();
        eachNumberAtItsEnds();
        orderOfRefusals();
        ofGroupAtItsEnds();
        staysIfNobodyWaits();
        ninthOfThat();
        ninthOnlyIfSomebodyWaits();
        coinOfGuests();
        coinOfStayingOnes();
        coinOfLookedAtOnes();
        coinIsCutAheadOfSize();
        CHECK.end();
    }

    private static void eightEver() {
        CHECK.says("GROUPS, 8 ever (FULL)");
        CafeTables x = Check.cafe("i6");
        for (int g = 0; g < 8; g++) {
            CHECK.due("group", x.group(0, 1, 0, 1, 0, 0), g);
            CHECK.due("so many", x.many(1), g + 1);
        }
        String before = Check.stateOf(x);
        CHECK.due("a ninth", x.group(1, 6, 99, 60, 2, 6), -4);
        CHECK.due("a tenth", x.group(2, 1, 0, 1, 0, 0), -4);
        CHECK.due("nothing changed", before.equals(Check.stateOf(x)));
        CHECK.due("there is no ninth", x.ofGroup(8, 0), -1);
    }

    private static void refusedOnesAreNotCounted() {
        CHECK.says("refusals change nothing: who is refused has no number");
        CafeTables x = Check.cafe("i6");
        for (int g = 0; g < 8; g++) {
            CHECK.due("refused", x.group(0, 7, 0, 1, 0, 0), -2);
            CHECK.due("taken", x.group(0, 6, 0, 1, 0, 0), g);
        }
        x = new CafeTables();
        CHECK.due("no cafe", x.group(0, 1, 0, 1, 0, 0), -3);
        Check.take(x, "i6");
        CHECK.due("the first", x.group(0, 1, 0, 1, 0, 0), 0);
    }

    private static void numberedAsTheyCome() {
        CHECK.says("numbered as they come (to be told), not by COMES");
        CafeTables x = Check.cafe("i6");
        CHECK.due("late", x.group(0, 1, 99, 1, 0, 0), 0);
        CHECK.due("early", x.group(0, 2, 0, 1, 0, 0), 1);
        CHECK.due("late stays the first", x.ofGroup(0, 2), 99);
        CHECK.due("early is the second", x.ofGroup(1, 1), 2);
    }

    private static int told(CafeTables x, int[] a) {
        return x.group(a[0], a[1], a[2], a[3], a[4], a[5]);
    }

    private static void eachNumberAtItsEnds() {
        String[] sentences = {"of a kind: 0 .. 2", "SIZE (1 .. 6)", "COMES (0 .. 99)", "STAY (1 .. 60)", "WANTS (0 .. 2)", "LURE (0 .. 6)"};
        int[] least = {0, 1, 0, 1, 0, 0};
        int[] greatest = {2, 6, 99, 60, 2, 6};
        for (int k = 0; k < 6; k++) {
            CHECK.says(sentences[k]);
            CafeTables x = Check.cafe("i6");
            int[] a = {1, 3, 50, 30, 1, 3};
            a[k] = least[k];
            CHECK.due("least", told(x, a), 0);
            CHECK.due("is told", x.ofGroup(0, k), least[k]);
            a[k] = greatest[k];
            CHECK.due("greatest", told(x, a), 1);
            CHECK.due("is told", x.ofGroup(1, k), greatest[k]);
            a[k] = least[k] - 1;
            CHECK.due("below", told(x, a), -2);
            a[k] = greatest[k] + 1;
            CHECK.due("above", told(x, a), -2);
            CHECK.due("two are there", x.many(1), 2);
        }
    }

    private static void orderOfRefusals() {
        CHECK.says("A GROUP: its number. OUTSIDE; STATE; FULL: in that order");
        int[] beyond = {3, 7, 100, 61, 3, 7};
        CafeTables none = new CafeTables();
        CafeTables full = Check.cafe("i6");
        for (int g = 0; g < 8; g++) {
            full.group(0, 1, 0, 1, 0, 0);
        }
        for (int k = 0; k < 6; k++) {
            int[] a = {0, 1, 0, 1, 0, 0};
            a[k] = beyond[k];
            CHECK.due("outside without a cafe, place " + k, told(none, a), -2);
            CHECK.due("outside though full, place " + k, told(full, a), -2);
        }
        CHECK.due("state", none.group(0, 1, 0, 1, 0, 0), -3);
        CHECK.due("full", full.group(0, 1, 0, 1, 0, 0), -4);
    }

    private static void ofGroupAtItsEnds() {
        CHECK.says("Of a GROUP: 0 kind .. 6 how long it STAYS if nobody WAITS. UNKNOWN; OUTSIDE");
        CafeTables x = Check.cafe("i6");
        CHECK.due("no group yet", x.ofGroup(0, 0), -1);
        x.group(2, 6, 99, 60, 1, 5);
        int[] want = {2, 6, 99, 60, 1, 5, 120};
        for (int what = 0; what <= 6; what++) {
            CHECK.due("what " + what, x.ofGroup(0, what), want[what]);
        }
        CHECK.due("what -1", x.ofGroup(0, -1), -2);
        CHECK.due("what 7", x.ofGroup(0, 7), -2);
        CHECK.due("group -1", x.ofGroup(-1, 0), -1);
        CHECK.due("group 1", x.ofGroup(1, 0), -1);
        CHECK.due("unknown is told first", x.ofGroup(1, 7), -1);
        CHECK.due("without a cafe, too", new CafeTables().ofGroup(0, 7), -1);
    }

    private static void staysIfNobodyWaits() {
        CHECK.says("A GUEST STAYS for STAY minutes; a STAYING one for twice that");
        int[][] due = {{1, 60}, {2, 120}, {2, 120}};
        for (int kind = 0; kind <= 2; kind++) {
            CafeTables x = Check.cafe("i1;i1");
            x.group(kind, 1, 0, 1, 0, 0);
            x.group(kind, 1, 0, 60, 0, 0);
            for (int g = 0; g < 2; g++) {
                CHECK.due("kind " + kind + " stays", x.ofGroup(g, 6), due[kind][g]);
                CHECK.due("kind " + kind + " sits till", x.day(g, 3), due[kind][g]);
            }
        }
    }

    /** Group 1 waits as group 2, of that kind and stay, sits down in minute 1. */
    private static CafeTables whileOneWaits(int kind, int size, int stay) {
        CafeTables x = Check.cafe("i6;i5");
        x.patience(30);
        x.group(0, 6, 0, 60, 0, 0);
        x.group(0, 6, 0, 1, 0, 0);
        x.group(kind, size, 1, stay, 0, 0);
        return x;
    }

    private static void ninthOfThat() {
        CHECK.says("a LOOKED at one, if somebody WAITS as he sits down, a ninth of that (cut) more");
        int[][] edges = {{1, 2}, {4, 8}, {5, 11}, {8, 17}, {9, 20}, {13, 28}, {14, 31}, {17, 37}, {18, 40}, {59, 131}, {60, 133}};
        for (int[] e : edges) {
            CafeTables x = whileOneWaits(2, 1, e[0]);
            CHECK.due("one waits", x.taken(1, 1), 1);
            CHECK.due("stay " + e[0] + " till", x.day(2, 3), 1 + e[1]);
            CHECK.due("if nobody waits", x.ofGroup(2, 6), 2 * e[0]);
        }
    }

    private static void ninthOnlyIfSomebodyWaits() {
        CHECK.says("a GUEST, a STAYING one: no more, though somebody WAITS");
        CHECK.due("guest", whileOneWaits(0, 1, 60).day(2, 3), 61);
        CHECK.due("staying", whileOneWaits(1, 1, 60).day(2, 3), 121);
        CHECK.says("a LOOKED at one, if somebody WAITS as he sits down");
        CafeTables x = whileOneWaits(2, 1, 60);
        x.patience(0);
        CHECK.due("nobody waits with patience 0", x.day(2, 3), 121);
        x.patience(1);
        CHECK.due("who went away in this minute waits no more", x.day(2, 3), 121);
        x.patience(2);
        CHECK.due("who waits still", x.day(2, 3), 134);
    }

    /** A group of that kind and size sits in the sun until rain in a minute, and finds no other table. */
    private static int coinTill(int kind, int size, int minute) {
        CafeTables x = Check.cafe("s6");
        x.group(kind, size, 0, 60, 0, 0);
        x.rain(minute);
        CHECK.due("sat till", x.day(0, 3), minute);
        return x.day(0, 4);
    }

    private static void coinOfGuests() {
        CHECK.says("COIN of one who sat m minutes: SIZE times (5 and m by 10, cut)");
        int[][] edges = {{1, 5}, {9, 5}, {10, 6}, {19, 6}, {20, 7}, {29, 7}, {59, 10}, {60, 11}};
        for (int[] e : edges) {
            CafeTables x = Check.cafe("i6");
            x.group(0, 1, 0, e[0], 0, 0);
            CHECK.due(e[0] + " minutes", x.day(0, 4), e[1]);
            CHECK.due(e[0] + " minutes till rain", coinTill(0, 1, e[0]), e[1]);
        }
    }

    private static void coinOfStayingOnes() {
        CHECK.says("COIN .. of a STAYING one m by 20");
        int[][] edges = {{1, 5}, {19, 5}, {20, 6}, {39, 6}, {40, 7}, {99, 9}, {119, 10}, {120, 11}};
        for (int[] e : edges) {
            CHECK.due(e[0] + " minutes of a staying one", coinTill(1, 1, e[0]), e[1]);
            CHECK.due(e[0] + " minutes of a looked at one", coinTill(2, 1, e[0]), e[1]);
        }
    }

    private static void coinOfLookedAtOnes() {
        CHECK.says("2 LOOKED at, a STAYING: m by 20, the ninth counted");
        int[][] edges = {{8, 5}, {9, 6}, {17, 6}, {18, 7}, {60, 11}};
        for (int[] e : edges) {
            CHECK.due("stay " + e[0], whileOneWaits(2, 1, e[0]).day(2, 4), e[1]);
            CHECK.due("stay " + e[0] + " of five", whileOneWaits(2, 5, e[0]).day(2, 4), 5 * e[1]);
        }
    }

    private static void coinIsCutAheadOfSize() {
        CHECK.says("SIZE times (5 and m by 10, cut): what is cut is m by 10");
        for (int size = 1; size <= 6; size++) {
            CHECK.due("guests " + size, coinTill(0, size, 19), 6 * size);
            CHECK.due("staying " + size, coinTill(1, size, 39), 6 * size);
        }
    }
}
