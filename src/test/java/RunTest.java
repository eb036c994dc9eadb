import java.lang.reflect.Method;
import java.lang.reflect.Modifier;
import java.util.ArrayList;
import java.util.Comparator;
import java.util.HashMap;
import java.util.List;
import java.util.Map;

/** 'An object is used for at most 512 calls': runs of 512 calls on one object, each answer against Book. */
public final class RunTest {
    private static final Check CHECK = new Check();
    private static final int CALLS = 512;
    private static final String[] TEXTS = {"s2;w4;i6", "i1", "s1;s2;s3;w4;w5;i6", "i2;i2;i2", "w6;s2;i2;s4", "s4;i2", "s2;w4;i6;", "x2", "s7"};
    private static final Map<String, Method> BY_NAME = new HashMap<>();
    private static long seed = 512L;
    private static int used;

    public static void main(String[] args) throws Exception {
        List<Method> calls = calls();
        for (int run = 0; run < 60; run++) {
            CHECK.says("An object is used for at most 512 calls: run " + run);
            CafeTables x = new CafeTables();
            Book book = new Book();
            used = 0;
            while (used < CALLS) {
                int way = pick(40);
                if (way < 2) {
                    tellText(x, book, TEXTS[pick(TEXTS.length)]);
                } else if (way < 4) {
                    tellGroup(x, book);
                } else {
                    any(x, book, calls.get(pick(calls.size())));
                }
            }
        }
        sameCallForAllOfTheRun();
        CHECK.end();
    }

    /** All calls but names and take, which NamesTest counts out. */
    private static List<Method> calls() {
        List<Method> calls = new ArrayList<>();
        for (Method m : CafeTables.class.getDeclaredMethods()) {
            if (Modifier.isPublic(m.getModifiers())) {
                BY_NAME.put(m.getName(), m);
                if (!m.getName().equals("names") && !m.getName().equals("take")) {
                    calls.add(m);
                }
            }
        }
        calls.sort(Comparator.comparing(Method::getName));
        return calls;
    }

    private static int pick(int n) {
        seed = seed * 6364136223846793005L + 1442695040888963407L;
        return (int) ((seed >>> 33) % n);
    }

    private static void ask(CafeTables x, Book book, String name, int... a) throws Exception {
        if (used == CALLS) {
            return;
        }
        used++;
        Method call = BY_NAME.get(name);
        Object[] boxed = new Object[a.length];
        StringBuilder told = new StringBuilder("call " + used + ", " + name);
        for (int k = 0; k < a.length; k++) {
            boxed[k] = call.getParameterTypes()[k] == boolean.class ? (Object) (a[k] == 1) : (Object) a[k];
            told.append(' ').append(a[k]);
        }
        CHECK.due(told.toString(), ((Number) call.invoke(x, boxed)).longValue(), book.answer(name, a));
    }

    private static void tellText(CafeTables x, Book book, String text) throws Exception {
        int k = pick(4);
        int sort = pick(3);
        ask(x, book, "sheet", k, sort, text.length());
        for (int i = 0; i < text.length(); i++) {
            ask(x, book, "put", k, i, text.charAt(i));
        }
        ask(x, book, "cafe", k, sort, 0, text.length());
    }

    private static void tellGroup(CafeTables x, Book book) throws Exception {
        ask(x, book, "group", pick(3), 1 + pick(6), pick(40), 1 + pick(60), pick(3), pick(3) == 0 ? pick(3) : 0);
    }

    /** Arguments that are mostly fine, so that runs come far, and now and then just beyond, or at the ends of int. */
    private static int argument() {
        switch (pick(16)) {
            case 0: return -1;
            case 1: return 4 + pick(6);
            case 2: return pick(45);
            case 3: return new int[] {24, 25, 30, 31, 40, 41, 60, 61, 99, 100, 399, 400, -9}[pick(13)];
            case 4: return pick(4) == 0 ? (pick(2) == 0 ? Integer.MIN_VALUE : Integer.MAX_VALUE) : pick(3);
            default: return pick(4);
        }
    }

    private static void any(CafeTables x, Book book, Method call) throws Exception {
        String name = call.getName();
        // Dear in Book alone: each of them plays many days of 400 minutes.
        if ((name.equals("mix") || name.equals("plan")) && pick(4) != 0) {
            return;
        }
        int[] a = new int[call.getParameterCount()];
        for (int k = 0; k < a.length; k++) {
            a[k] = call.getParameterTypes()[k] == boolean.class ? pick(2) : argument();
        }
        ask(x, book, name, a);
    }

    /** The dearest calls, 512 times each: the last is answered as the first. */
    private static void sameCallForAllOfTheRun() {
        CHECK.says("An object is used for at most 512 calls: the same, again and again");
        int setUp = 2 + 17 + 8;
        CafeTables x = crowded();
        int coin = x.plan(-1);
        for (int k = setUp + 1; k < CALLS; k++) {
            CHECK.due("plan, call " + k, x.plan(-1), coin);
        }
        x = crowded();
        int twos = x.mix(24, 1);
        for (int k = setUp + 1; k < CALLS - 1; k += 2) {
            x.mix(23, 0);
            CHECK.due("mix, call " + k, x.mix(24, 1), twos);
        }
        CafeTables y = Check.cafe("i1");
        for (int k = 4; k < CALLS; k++) {
            CHECK.due("rain, call " + k, y.rain(k % 400), 1);
        }
        y = Check.cafe("i1");
        y.group(2, 1, 0, 1, 0, 0);
        int trace = 0;
        for (int k = 5; k < CALLS - 1; k += 2) {
            y.tell(0);
            trace = (((trace * 31 + 3) * 31 + 2) * 31 + 1) * 31 + 1;
            CHECK.due("trace, call " + k, y.trace(), trace);
        }
    }

    private static CafeTables crowded() {
        CafeTables x = Check.cafe("i6;i6;i6;i6;i6;i6");
        for (int g = 0; g < 8; g++) {
            x.group(g % 3, 1 + g % 6, g, 60, g % 3, 0);
        }
        return x;
    }
}
