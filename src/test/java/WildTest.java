import java.lang.reflect.Method;
import java.lang.reflect.Modifier;
import java.util.ArrayList;
import java.util.Comparator;
import java.util.List;

/** Any call with any arguments in any state: none throws, and what is refused, or comes to a fault, changes nothing. */
public final class WildTest {
    private static final Check CHECK = new Check();
    private static final int[] EDGES = {-9, -2, -1, 0, 1, 2, 3, 4, 5, 6, 7, 8, 9, 24, 25, 30, 31, 39, 40, 41, 60, 61, 99, 100,
        101, 399, 400, Integer.MIN_VALUE, Integer.MIN_VALUE + 1, Integer.MAX_VALUE - 1, Integer.MAX_VALUE};
    private static long seed = 4711L;

    public static void main(String[] args) throws Exception {
        List<Method> calls = calls();
        for (int run = 0; run < 300; run++) {
            CafeTables x = run % 5 == 0 ? new CafeTables() : Check.cafe("s2;w4;i6".substring(0, 2 + 3 * (run % 3)));
            for (int k = 0; k < 400; k++) {
                wildCall(x, calls.get(pick(calls.size())), pick(2) == 0);
            }
        }
        CHECK.end();
    }

    private static List<Method> calls() {
        List<Method> calls = new ArrayList<>();
        for (Method m : CafeTables.class.getDeclaredMethods()) {
            if (Modifier.isPublic(m.getModifiers())) {
                calls.add(m);
            }
        }
        calls.sort(Comparator.comparing(Method::getName));
        return calls;
    }

    private static int pick(int n) {
        seed = seed * 6364136223846793005L + 1442695040888963407L;
        return (int) ((seed >>> 33) % n);
    }

    private static void wildCall(CafeTables x, Method call, boolean tame) throws Exception {
        Object[] a = new Object[call.getParameterCount()];
        StringBuilder name = new StringBuilder(call.getName());
        for (int k = 0; k < a.length; k++) {
            boolean flag = call.getParameterTypes()[k] == boolean.class;
            a[k] = flag ? (Object) (pick(2) == 0) : (Object) (tame ? pick(4) : EDGES[pick(EDGES.length)]);
            name.append(' ').append(a[k]);
        }
        int trace = x.trace();
        String state = Check.stateOf(x);
        // Looking at all the cells costs much: one call in eight will do.
        String sheets = pick(8) == 0 ? Check.sheetsOf(x) : null;
        CHECK.due(name + ": a look leaves the trace", x.trace(), trace);
        try {
            long got = ((Number) call.invoke(x, a)).longValue();
            boolean refused = got == Check.LOST || got >= -4 && got <= -1 || got <= -11;
            boolean mayAnswerBelowZero = call.getName().equals("names") || call.getName().equals("worth")
                || call.getName().equals("cell") || call.getName().equals("trace") || call.getName().equals("tell");
            if (refused && !mayAnswerBelowZero) {
                CHECK.due(name + " refused changes nothing", state.equals(Check.stateOf(x)));
                CHECK.due(name + " refused leaves the sheets", sheets == null || sheets.equals(Check.sheetsOf(x)));
            }
        } catch (java.lang.reflect.InvocationTargetException e) {
            CHECK.due(name + " threw " + e.getCause(), false);
        }
    }
}
