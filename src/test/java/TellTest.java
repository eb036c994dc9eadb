/** Promises 26 to 31: tell, serve, as, trace, fault, many. */
public final class TellTest {
    private static final Check CHECK = new Check();

    public static void main(String[] args) {
        tells();
        serves();
        traceWraps();
        kinds();
        manies();
        CHECK.end();
    }

    private static CafeTables ofEachKind() {
        CafeTables x = Check.cafe("s2;i4");
        x.group(0, 3, 0, 1, 0, 0);
        x.group(1, 4, 0, 1, 0, 0);
        x.group(2, 5, 0, 1, 0, 0);
        return x;
    }

    private static int traced(int before, int... bodies) {
        int trace = before;
        for (int b : bodies) {
            trace = 31 * trace + b;
        }
        return trace;
    }

    private static void tells() {
        CafeTables x = ofEachKind();
        CHECK.due("guest", x.tell(0), 3);
        int trace = traced(0, 1);
        CHECK.due("trace", x.trace(), trace);
        CHECK.due("staying", x.tell(1), 104);
        trace = traced(trace, 2, 1);
        CHECK.due("trace", x.trace(), trace);
        CHECK.due("looked at", x.tell(2), 110);
        trace = traced(trace, 3, 2, 1, 1);
        CHECK.due("trace", x.trace(), trace);
        CHECK.due("no group", x.tell(3), -1);
        CHECK.due("no group", x.tell(-1), -1);
        CHECK.due("trace stays", x.trace(), trace);
    }

    private static void serves() {
        CafeTables x = ofEachKind();
        CHECK.due("guest: his number", x.serve(0), 0);
        CHECK.due("staying: his number", x.serve(1), 1);
        CHECK.due("trace", x.trace(), traced(0, 4, 4));
        CHECK.due("looked at", x.serve(2), 50);
        CHECK.due("trace", x.trace(), traced(0, 4, 4, 5));
        CHECK.due("no group", x.serve(3), -1);
        CHECK.due("no group", x.serve(Integer.MIN_VALUE), -1);
        CHECK.due("trace", x.trace(), traced(0, 4, 4, 5));
    }

    private static void traceWraps() {
        CafeTables x = ofEachKind();
        int trace = 0;
        for (int k = 0; k < 40; k++) {
            x.tell(2);
            trace = traced(trace, 3, 2, 1, 1);
            CHECK.due("trace", x.trace(), trace);
        }
        Check.take(x, "i1");
        CHECK.due("a new cafe leaves it", x.trace(), trace);
    }

    private static void kinds() {
        CafeTables x = ofEachKind();
        for (int g = 0; g < 3; g++) {
            for (int kind = 0; kind < 3; kind++) {
                boolean is = kind <= g;
                CHECK.due("as " + g + " " + kind, x.as(g, kind), is ? 1 : -12);
                CHECK.due("fault", x.fault(), is ? 0 : 2);
            }
            CHECK.due("kind", x.as(g, 3), -2);
            CHECK.due("kind", x.as(g, -1), -2);
        }
        CHECK.due("unknown first", x.as(3, 3), -1);
        CHECK.due("unknown", x.as(-1, 0), -1);
        CHECK.due("no trace", x.trace(), 0);
    }

    private static void manies() {
        CafeTables x = ofEachKind();
        x.rule(1);
        x.patience(12);
        x.joining(true);
        x.rain(0);
        int[] want = {2, 3, 1, 12, 1, 0, 6};
        for (int what = 0; what <= 6; what++) {
            CHECK.due("many " + what, x.many(what), want[what]);
        }
        CHECK.due("many", x.many(7), -2);
        CHECK.due("many", x.many(-1), -2);
    }
}
