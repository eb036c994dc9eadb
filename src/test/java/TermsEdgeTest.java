/** The document's 'Terms': refusals and faults, their order, what they leave as it was, and fault() (promise 30). */
public final class TermsEdgeTest {
    private static final Check CHECK = new Check();
    private static final long LOST = Check.LOST;

    /** A call, told as a value, so that rows of them can be gone through. */
    private interface Call {
        long on(CafeTables x);
    }

    public static void main(String[] args) {
        constants();
        faultAheadOfAny();
        refusalsChangeNothing();
        refusalsClearFault();
        refusalsOfOthersLeaveFault();
        faultsChangeNothing();
        firstFaultThatIsComeTo();
        faultIsToldAsTenLess();
        fineCallsClearFault();
        callsThatNameNoFaultLeaveIt();
        faultIsOfTheLatest();
        wrongTextsAreNoFault();
        CHECK.end();
    }

    private static void constants() {
        CHECK.says("UNKNOWN = -1, OUTSIDE = -2, STATE = -3, FULL = -4, NONE = -9; LOST = Long.MIN_VALUE");
        CHECK.due("UNKNOWN", CafeTables.UNKNOWN, -1);
        CHECK.due("OUTSIDE", CafeTables.OUTSIDE, -2);
        CHECK.due("STATE", CafeTables.STATE, -3);
        CHECK.due("FULL", CafeTables.FULL, -4);
        CHECK.due("NONE", CafeTables.NONE, -9);
        CHECK.due("LOST", CafeTables.LOST, Long.MIN_VALUE);
    }

    private static void faultAheadOfAny() {
        CHECK.says("0 ahead of any");
        CHECK.due("fault", new CafeTables().fault(), 0);
        CafeTables x = new CafeTables();
        x.lose(0);
        x.rule(9);
        CHECK.due("after calls that name none", x.fault(), 0);
    }

    /** Eight groups, bytes on sheet 0, shorts on 1, ints on 2, nothing on 3, a trace; the latest fault is 3. */
    private static CafeTables busy() {
        CafeTables x = Check.cafe("s2;w4;i6");
        x.sheet(1, 1, 2);
        x.put(1, 1, 300);
        x.sheet(2, 2, 1);
        x.put(2, 0, -5);
        x.rule(1);
        x.patience(7);
        x.joining(true);
        x.rain(20);
        for (int g = 0; g < 8; g++) {
            x.group(g % 3, 1 + g % 6, 5 * g, 15, g % 3, g % 2);
        }
        x.tell(2);
        x.put(0, 9, 0);
        return x;
    }

    /** All that can be asked of what busy() told but fault(), which this sets; some 300 calls. */
    private static String lookAt(CafeTables x) {
        StringBuilder all = new StringBuilder(Check.stateOf(x));
        for (int k = 0; k <= 3; k++) {
            for (int sort = 0; sort <= 2; sort++) {
                for (int i = 0; i <= 8; i++) {
                    all.append(' ').append(x.cell(k, i, sort)).append(' ').append(x.fault());
                }
            }
        }
        return all.toString();
    }

    private static final Call[] REFUSED = {
        x -> x.cafe(4, 0, 0, 2), x -> x.cafe(-1, 0, 0, 2), x -> x.cafe(0, 3, 0, 2), x -> x.cafe(0, -1, 0, 2),
        x -> x.sheet(4, 0, 1), x -> x.sheet(-1, 0, 1), x -> x.sheet(0, 3, 1), x -> x.sheet(0, -1, 1), x -> x.sheet(0, 0, 41),
        x -> x.put(4, 0, 1), x -> x.put(-1, 0, 1), x -> x.cell(4, 0, 0), x -> x.cell(-1, 0, 0), x -> x.cell(0, 0, 3),
        x -> x.cell(0, 0, -1), x -> x.copy(4, 0, 0, 0, 1), x -> x.copy(0, 0, 4, 0, 1), x -> x.copy(-1, 0, 0, 0, 1),
        x -> x.copy(0, 0, -1, 0, 1), x -> x.as(8, 0), x -> x.as(-1, 0), x -> x.as(0, 3), x -> x.as(0, -1)};
    private static final long[] REFUSALS = {-1, -1, -2, -2, -1, -1, -2, -2, -2, -1, -1, LOST, LOST, LOST, LOST, -1, -1, -1, -1, -1, -1,
        -2, -2};

    private static final Call[] REFUSED_WITHOUT_FAULTS = {
        x -> x.ofTable(3, 0), x -> x.ofTable(0, 2), x -> x.rule(3), x -> x.patience(31), x -> x.rain(400),
        x -> x.group(3, 1, 0, 1, 0, 0), x -> x.group(0, 1, 0, 1, 0, 0), x -> x.ofGroup(8, 0), x -> x.ofGroup(0, 7),
        x -> x.day(8, 0), x -> x.day(0, 6), x -> x.taken(400, 0), x -> x.taken(0, 2), x -> x.worth(8), x -> x.plan(6),
        x -> x.plan(-2), x -> x.bestRule(2), x -> x.waiting(2), x -> x.mix(25, 0), x -> x.mix(2, 4), x -> x.till(0, 3),
        x -> x.names(9, 0, 0, 0, 0, 0), x -> x.take(101, 0, 0, 0), x -> x.lose(4), x -> x.tell(8), x -> x.serve(8), x -> x.many(7)};
    private static final long[] REFUSALS_WITHOUT_FAULTS = {-1, -2, -2, -2, -2, -2, -4, -1, -2, -1, -2, -2, -2, LOST, -1, -1, -2, -2, -2,
        -2, -2, LOST, -2, -1, -1, -1, -2};

    private static final Call[] FAULTY = {
        x -> x.cafe(0, 1, 0, 2), x -> x.cafe(3, 0, 0, 2), x -> x.cafe(0, 0, 0, -1), x -> x.cafe(0, 0, 0, 9), x -> x.cafe(0, 0, 9, 0),
        x -> x.sheet(0, 0, -1), x -> x.put(3, 0, 1), x -> x.put(0, 8, 1), x -> x.put(0, -1, 1), x -> x.cell(0, 0, 1),
        x -> x.cell(3, 0, 0), x -> x.cell(0, 8, 0), x -> x.cell(0, -1, 0), x -> x.copy(3, 0, 0, 0, 1), x -> x.copy(0, 0, 3, 0, 1),
        x -> x.copy(0, 0, 1, 0, 1), x -> x.copy(0, 0, 0, 1, 8), x -> x.copy(0, 0, 0, 0, -1), x -> x.copy(0, 9, 0, 0, 0),
        x -> x.as(0, 1), x -> x.as(1, 2), x -> x.as(0, 2)};
    private static final int[] FAULTS = {2, 1, 4, 3, 3, 4, 1, 3, 3, 2, 1, 3, 3, 1, 1, 2, 3, 3, 3, 2, 2, 2};

    private static boolean answersLong(int faulty) {
        return faulty >= 9 && faulty <= 12;
    }

    private static void refusalsChangeNothing() {
        CHECK.says("REFUSALS .. change nothing");
        String before = lookAt(busy());
        for (int k = 0; k < REFUSED.length; k++) {
            CafeTables x = busy();
            CHECK.due("refused call " + k, REFUSED[k].on(x), REFUSALS[k]);
            CHECK.due("nothing changed by call " + k, before.equals(lookAt(x)));
        }
        for (int k = 0; k < REFUSED_WITHOUT_FAULTS.length; k++) {
            CafeTables x = busy();
            CHECK.due("refused call without faults " + k, REFUSED_WITHOUT_FAULTS[k].on(x), REFUSALS_WITHOUT_FAULTS[k]);
            CHECK.due("nothing changed by call without faults " + k, before.equals(lookAt(x)));
        }
    }

    private static void refusalsClearFault() {
        CHECK.says("they change nothing (but fault(), of a call that names FAULTS); 0: it came to none, or was refused");
        for (int k = 0; k < REFUSED.length; k++) {
            CafeTables x = busy();
            CHECK.due("ahead of it", x.fault(), 3);
            REFUSED[k].on(x);
            CHECK.due("after refused call " + k, x.fault(), 0);
        }
    }

    private static void refusalsOfOthersLeaveFault() {
        CHECK.says("the latest call that names one: a refusal of a call that names none leaves fault()");
        for (int k = 0; k < REFUSED_WITHOUT_FAULTS.length; k++) {
            CafeTables x = busy();
            REFUSED_WITHOUT_FAULTS[k].on(x);
            CHECK.due("after refused call " + k, x.fault(), 3);
        }
    }

    private static void faultsChangeNothing() {
        CHECK.says("FAULTS .. changes nothing; fault() tells it");
        String before = lookAt(busy());
        for (int k = 0; k < FAULTY.length; k++) {
            CafeTables x = busy();
            FAULTY[k].on(x);
            CHECK.due("fault of call " + k, x.fault(), FAULTS[k]);
            CHECK.due("nothing changed by call " + k, before.equals(lookAt(x)));
        }
    }

    private static void faultIsToldAsTenLess() {
        CHECK.says("it answers -10 less it (LOST, where a long is answered)");
        for (int k = 0; k < FAULTY.length; k++) {
            long want = answersLong(k) ? LOST : -10 - FAULTS[k];
            CHECK.due("call " + k, FAULTY[k].on(busy()), want);
        }
    }

    private static void firstFaultThatIsComeTo() {
        CHECK.says("Of a call the first that is come to, in the order told");
        Call[] several = {
            x -> x.cafe(4, 3, -1, -1), x -> x.cafe(0, 3, -1, -1), x -> x.cafe(0, 1, -1, -1), x -> x.cafe(3, 1, -1, -1),
            x -> x.cafe(0, 0, -1, -1), x -> x.cafe(0, 0, -1, 0), x -> x.sheet(4, 3, -1), x -> x.sheet(0, 3, -1), x -> x.sheet(0, 3, 41),
            x -> x.put(4, -1, 0), x -> x.put(3, -1, 0), x -> x.copy(4, -1, 4, -1, -1), x -> x.copy(3, -1, 4, -1, -1),
            x -> x.copy(3, -1, 0, -1, -1), x -> x.copy(0, -1, 3, -1, -1), x -> x.copy(0, -1, 1, -1, -1), x -> x.copy(0, -1, 0, 0, 1),
            x -> x.as(8, 3), x -> x.as(0, 3)};
        int[] due = {-1, -2, -12, -11, -14, -13, -1, -2, -2, -1, -11, -1, -1, -11, -11, -12, -13, -1, -2};
        for (int k = 0; k < several.length; k++) {
            CHECK.due("call " + k, several[k].on(busy()), due[k]);
        }
        Call[] lost = {x -> x.cell(4, -1, 3), x -> x.cell(0, -1, 3), x -> x.cell(0, -1, 1), x -> x.cell(3, -1, 1), x -> x.cell(0, -1, 0)};
        int[] faults = {0, 0, 2, 1, 3};
        for (int k = 0; k < lost.length; k++) {
            CafeTables x = busy();
            CHECK.due("lost call " + k, lost[k].on(x), LOST);
            CHECK.due("fault of lost call " + k, x.fault(), faults[k]);
        }
    }

    private static void fineCallsClearFault() {
        CHECK.says("The FAULT of the latest call that names one: 0: it came to none");
        Call[] fine = {
            x -> x.cafe(0, 0, 0, 8), x -> x.sheet(3, 0, 0), x -> x.put(0, 7, 1), x -> x.cell(0, 7, 0), x -> x.copy(0, 0, 0, 1, 7),
            x -> x.copy(0, 8, 0, 8, 0), x -> x.as(0, 0), x -> x.as(2, 2)};
        int[] due = {3, 1, 1, '6', 7, 0, 1, 1};
        for (int k = 0; k < fine.length; k++) {
            CafeTables x = busy();
            CHECK.due("ahead of it", x.fault(), 3);
            CHECK.due("fine call " + k, fine[k].on(x), due[k]);
            CHECK.due("after fine call " + k, x.fault(), 0);
        }
    }

    private static void callsThatNameNoFaultLeaveIt() {
        CHECK.says("The FAULT of the latest call that names one: others leave it");
        Call[] others = {
            x -> x.ofTable(0, 0), x -> x.rule(0), x -> x.patience(0), x -> x.joining(false), x -> x.rain(-9), x -> x.ofGroup(0, 0),
            x -> x.day(0, 0), x -> x.taken(0, 0), x -> x.coin(), x -> x.worth(0), x -> x.plan(-1), x -> x.bestRule(0),
            x -> x.waiting(0), x -> x.mix(2, 0), x -> x.till(0, 0), x -> x.names(1, 1, 1, 1, 1, 1), x -> x.take(1, 1, 1, 1),
            x -> x.lose(0), x -> x.lose(3), x -> x.tell(0), x -> x.serve(0), x -> x.trace(), x -> x.fault(), x -> x.many(0)};
        for (int k = 0; k < others.length; k++) {
            CafeTables x = busy();
            others[k].on(x);
            CHECK.due("after call " + k, x.fault(), 3);
        }
        CafeTables x = Check.cafe("i2");
        x.put(0, 2, 0);
        CHECK.due("group", x.group(0, 1, 0, 1, 0, 0), 0);
        CHECK.due("after group", x.fault(), 3);
    }

    private static void faultIsOfTheLatest() {
        CHECK.says("The FAULT of the latest call");
        CafeTables x = busy();
        for (int again = 0; again < 2; again++) {
            for (int k = 0; k < FAULTY.length; k++) {
                FAULTY[k].on(x);
                CHECK.due("after call " + k, x.fault(), FAULTS[k]);
                CHECK.due("asked again", x.fault(), FAULTS[k]);
            }
        }
    }

    private static void wrongTextsAreNoFault() {
        CHECK.says("-100 less the FIRST FAULT (of a TEXT) is none of the machine's FAULTS");
        CafeTables x = busy();
        CHECK.due("no codes", x.cafe(0, 0, 0, 0), -100);
        CHECK.due("fault", x.fault(), 0);
        x = busy();
        CHECK.due("ends too soon", x.cafe(0, 0, 0, 3), -103);
        CHECK.due("fault", x.fault(), 0);
        CHECK.due("the cafe stays", x.many(0), 3);
    }
}
