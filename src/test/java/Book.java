import java.util.Arrays;

/**
 * What every call must answer, as plainly as the document says it: the days by Model, the rows of the sheets as Java's
 * own arrays, whose own exceptions tell the faults. It is told calls by name.
 */
final class Book {
    private static final long LOST = Long.MIN_VALUE;
    private static final int UNKNOWN = -1;
    private static final int OUTSIDE = -2;
    private static final int STATE = -3;
    private static final int FULL = -4;
    private final Object[] rows = new Object[4];
    private Model cafe = new Model();
    private int trace;
    private int fault;

    long answer(String name, int... a) {
        switch (name) {
            case "cafe": case "sheet": case "put": case "cell": case "copy": case "as": return naming(name, a);
            case "lose": return lose(a[0]);
            case "ofTable": return ofTable(a[0], a[1]);
            case "rule": case "patience": case "joining": case "rain": return way(name, a[0]);
            case "group": return group(a);
            case "ofGroup": return ofGroup(a[0], a[1]);
            case "day": return day(a[0], a[1]);
            case "taken": return taken(a[0], a[1]);
            case "coin": return noCafe() ? STATE : cafe.play(-1).sum;
            case "worth": return noGroup(a[0]) ? LOST : cafe.play(-1).sum - cafe.play(a[0]).sum;
            case "plan": return plan(a[0]);
            case "bestRule": return bestRule(a[0]);
            case "waiting": return waiting(a[0]);
            case "mix": return mix(a[0], a[1]);
            case "till": return till(a[0], a[1]);
            case "tell": return tell(a[0]);
            case "serve": return serve(a[0]);
            case "trace": return trace;
            case "fault": return fault;
            case "many": return many(a[0]);
            default: throw new IllegalArgumentException(name);
        }
    }

    /** The calls that name faults: what the machine throws, thrown by itself, is the fault. */
    private long naming(String name, int[] a) {
        fault = 0;
        try {
            switch (name) {
                case "cafe": return cafe(a[0], a[1], a[2], a[3]);
                case "sheet": return sheet(a[0], a[1], a[2]);
                case "put": return put(a[0], a[1], a[2]);
                case "cell": return cell(a[0], a[1], a[2]);
                case "copy": return copy(a);
                default: return as(a[0], a[1]);
            }
        } catch (NullPointerException e) {
            fault = 1;
        } catch (ClassCastException | ArrayStoreException e) {
            fault = 2;
        } catch (IndexOutOfBoundsException e) {
            fault = 3;
        } catch (NegativeArraySizeException e) {
            fault = 4;
        }
        return name.equals("cell") ? LOST : -10 - fault;
    }

    private boolean noCafe() {
        return cafe.tables.isEmpty();
    }

    private boolean noGroup(int g) {
        return g < 0 || g >= cafe.groups.size();
    }

    private static boolean noSheet(int k) {
        return k < 0 || k > 3;
    }

    private static boolean beyond(int v, int least, int greatest) {
        return v < least || v > greatest;
    }

    /** A row taken as one of a sort, and read as ints. */
    private static int[] asInts(Object row, int sort) {
        int[] ints;
        if (sort == 0) {
            byte[] bytes = (byte[]) row;
            ints = new int[bytes.length];
            for (int i = 0; i < ints.length; i++) {
                ints[i] = bytes[i];
            }
        } else if (sort == 1) {
            short[] shorts = (short[]) row;
            ints = new int[shorts.length];
            for (int i = 0; i < ints.length; i++) {
                ints[i] = shorts[i];
            }
        } else {
            ints = ((int[]) row).clone();
        }
        return ints;
    }

    private long cafe(int k, int sort, int i, int n) {
        if (noSheet(k)) {
            return UNKNOWN;
        }
        if (beyond(sort, 0, 2)) {
            return OUTSIDE;
        }
        int[] ints = asInts(rows[k], sort);
        int[] codes = new int[n];
        System.arraycopy(ints, i, codes, 0, n);
        StringBuilder text = new StringBuilder();
        for (int c : codes) {
            text.append(c >= 0 && c <= 255 ? (char) c : '?');
        }
        int wrong = firstFault(text.toString());
        if (wrong >= 0) {
            return -100 - wrong;
        }
        cafe = new Model();
        for (String table : text.toString().split(";")) {
            cafe.tables.add(new int[] {"swi".indexOf(table.charAt(0)), table.charAt(1) - '0'});
        }
        return cafe.tables.size();
    }

    private static int firstFault(String text) {
        int tables = 0;
        for (int p = 0; ; p += 3) {
            String[] fine = {"swi", "123456", ";"};
            for (int part = 0; part < 3; part++) {
                if (p + part == text.length()) {
                    return part == 2 ? -1 : text.length();
                }
                boolean seventh = part == 2 && tables == 5;
                if (seventh || fine[part].indexOf(text.charAt(p + part)) < 0) {
                    return p + part;
                }
            }
            tables++;
        }
    }

    private long sheet(int k, int sort, int n) {
        if (noSheet(k)) {
            return UNKNOWN;
        }
        if (beyond(sort, 0, 2) || n > 40) {
            return OUTSIDE;
        }
        rows[k] = sort == 0 ? new byte[n] : sort == 1 ? new short[n] : new int[n];
        return 1;
    }

    private long lose(int k) {
        if (noSheet(k)) {
            return UNKNOWN;
        }
        long had = rows[k] == null ? 0 : 1;
        rows[k] = null;
        return had;
    }

    private long put(int k, int i, int v) {
        if (noSheet(k)) {
            return UNKNOWN;
        }
        if (rows[k] instanceof byte[] bytes) {
            bytes[i] = (byte) v;
        } else if (rows[k] instanceof short[] shorts) {
            shorts[i] = (short) v;
        } else {
            ((int[]) rows[k])[i] = v;
        }
        return 1;
    }

    private long cell(int k, int i, int sort) {
        return noSheet(k) || beyond(sort, 0, 2) ? LOST : asInts(rows[k], sort)[i];
    }

    private long copy(int[] a) {
        if (noSheet(a[0]) || noSheet(a[2])) {
            return UNKNOWN;
        }
        System.arraycopy(rows[a[0]], a[1], rows[a[2]], a[3], a[4]);
        return a[4];
    }

    private long as(int g, int kind) {
        if (noGroup(g)) {
            return UNKNOWN;
        }
        if (beyond(kind, 0, 2)) {
            return OUTSIDE;
        }
        if (cafe.groups.get(g)[0] < kind) {
            throw new ClassCastException();
        }
        return 1;
    }

    private long ofTable(int t, int what) {
        if (t < 0 || t >= cafe.tables.size()) {
            return UNKNOWN;
        }
        return beyond(what, 0, 1) ? OUTSIDE : cafe.tables.get(t)[what];
    }

    private long way(String name, int v) {
        boolean fine = switch (name) {
            case "rule" -> !beyond(v, 0, 2);
            case "patience" -> !beyond(v, 0, 30);
            case "rain" -> v == Model.NONE || !beyond(v, 0, 399);
            default -> true;
        };
        if (!fine) {
            return OUTSIDE;
        }
        if (noCafe()) {
            return STATE;
        }
        long was = name.equals("rule") ? cafe.rule : cafe.patience;
        switch (name) {
            case "rule": cafe.rule = v; return was;
            case "patience": cafe.patience = v; return was;
            case "rain": cafe.rain = v; return 1;
            default:
                boolean same = cafe.joining == (v == 1);
                cafe.joining = v == 1;
                return same ? 0 : 1;
        }
    }

    private long group(int[] a) {
        int[] least = {0, 1, 0, 1, 0, 0};
        int[] greatest = {2, 6, 99, 60, 2, 6};
        for (int k = 0; k < 6; k++) {
            if (beyond(a[k], least[k], greatest[k])) {
                return OUTSIDE;
            }
        }
        if (noCafe()) {
            return STATE;
        }
        if (cafe.groups.size() == 8) {
            return FULL;
        }
        cafe.groups.add(a.clone());
        return cafe.groups.size() - 1;
    }

    private long ofGroup(int g, int what) {
        if (noGroup(g)) {
            return UNKNOWN;
        }
        if (beyond(what, 0, 6)) {
            return OUTSIDE;
        }
        int[] group = cafe.groups.get(g);
        return what == 6 ? Model.stays(group, false) : group[what];
    }

    private long day(int g, int what) {
        if (noGroup(g)) {
            return UNKNOWN;
        }
        if (beyond(what, 0, 5)) {
            return OUTSIDE;
        }
        Model.Told told = cafe.play(-1);
        int[][] all = {told.how, told.table, told.from, told.until, told.coin, told.waited};
        return all[what][g];
    }

    private long taken(int m, int what) {
        if (beyond(m, 0, 399) || beyond(what, 0, 1)) {
            return OUTSIDE;
        }
        if (noCafe()) {
            return STATE;
        }
        Model.Told told = cafe.play(-1);
        return what == 0 ? told.taken[m] : told.waiting[m];
    }

    private long plan(int q) {
        if (beyond(q, -1, Math.min(6, cafe.groups.size()) - 1)) {
            return UNKNOWN;
        }
        return noCafe() ? STATE : cafe.plan()[q + 1];
    }

    private long bestRule(int what) {
        if (beyond(what, 0, 1)) {
            return OUTSIDE;
        }
        if (noCafe()) {
            return STATE;
        }
        Model other = cafe.like();
        int[] coins = new int[3];
        for (int v = 0; v <= 2; v++) {
            other.rule = v;
            coins[v] = other.play(-1).sum;
        }
        return firstOfTheMost(coins, what);
    }

    private static long firstOfTheMost(int[] coins, int what) {
        int most = Arrays.stream(coins).max().getAsInt();
        int first = 0;
        while (coins[first] < most) {
            first++;
        }
        return what == 0 ? first : most;
    }

    private int[] coinsByPatience() {
        Model other = cafe.like();
        int[] coins = new int[31];
        for (int v = 0; v <= 30; v++) {
            other.patience = v;
            coins[v] = other.play(-1).sum;
        }
        return coins;
    }

    private long waiting(int what) {
        if (beyond(what, 0, 1)) {
            return OUTSIDE;
        }
        return noCafe() ? STATE : firstOfTheMost(coinsByPatience(), what);
    }

    private long mix(int s, int what) {
        if (beyond(s, 2, 24) || beyond(what, 0, 3)) {
            return OUTSIDE;
        }
        return noCafe() ? STATE : cafe.mix(s)[what];
    }

    private long till(int coin, int what) {
        if (beyond(what, 0, 2)) {
            return OUTSIDE;
        }
        if (noCafe()) {
            return STATE;
        }
        int[] coins = coinsByPatience();
        int[] fit = java.util.stream.IntStream.rangeClosed(0, 30).filter(v -> coins[v] == coin).toArray();
        if (what == 0) {
            return fit.length;
        }
        return fit.length == 0 ? Model.NONE : fit[what == 1 ? 0 : fit.length - 1];
    }

    private void mark(int number) {
        trace = 31 * trace + number;
    }

    private long tell(int g) {
        if (noGroup(g)) {
            return UNKNOWN;
        }
        int kind = cafe.groups.get(g)[0];
        int size = cafe.groups.get(g)[1];
        int[][] bodies = {{1}, {2, 1}, {3, 2, 1, 1}};
        for (int b : bodies[kind]) {
            mark(b);
        }
        return kind == 0 ? size : kind == 1 ? size + 100 : 2 * size + 100;
    }

    private long serve(int g) {
        if (noGroup(g)) {
            return UNKNOWN;
        }
        boolean looked = cafe.groups.get(g)[0] == 2;
        mark(looked ? 5 : 4);
        return looked ? 50 : g;
    }

    private long many(int what) {
        switch (what) {
            case 0: return cafe.tables.size();
            case 1: return cafe.groups.size();
            case 2: return cafe.rule;
            case 3: return cafe.patience;
            case 4: return cafe.joining ? 1 : 0;
            case 5: return cafe.rain;
            case 6: return cafe.tables.stream().mapToInt(t -> t[1]).sum();
            default: return OUTSIDE;
        }
    }
}
