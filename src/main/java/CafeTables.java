import java.util.Arrays;

/** The tables of a cafe, the groups that come to them, and what a day of them brings. */
public final class CafeTables {
    public static final int UNKNOWN = -1, OUTSIDE = -2, STATE = -3, FULL = -4, NONE = -9;
    public static final long LOST = Long.MIN_VALUE;

    private static final int FAULT_NULL = 1, FAULT_CAST = 2, FAULT_INDEX = 3, FAULT_SIZE = 4;
    private static final int MOST_TABLES = 6, MOST_GROUPS = 8, PLANNED_GROUPS = 6;
    private static final int MOST_SHEETS = 4, MOST_CELLS = 40;
    private static final int MINUTES = 400, MOST_PATIENCE = 30, NOBODY = -1;
    private static final int SUN = 0, WINDOW = 1, INSIDE = 2;
    private static final int MOST_NAMES = 8;

    private final House house;
    private final Groups groups;
    private final Sheet[] sheets;
    private final Trace marks;
    /** The house as it might be: what is tried out never touches the one that is told. */
    private final House otherHouse;
    private final Day present;
    private final Day trial;
    private final Plan bestPlan;
    private final int[] coinByPatience;
    private final int[] mixRow;
    private int latestFault;
    // What has been reckoned stands until cafe, groups or ways change: see forget().
    private boolean dayStands;
    private boolean planStands;
    private boolean coinsStand;
    private int mixSeats;

    public CafeTables() {
        house = new House();
        otherHouse = new House();
        groups = new Groups();
        sheets = new Sheet[MOST_SHEETS];
        for (int k = 0; k < MOST_SHEETS; k++) {
            sheets[k] = new Sheet();
        }
        marks = new Trace();
        present = new Day(house, groups);
        trial = new Day(house, groups);
        bestPlan = new Plan(house, groups);
        coinByPatience = new int[MOST_PATIENCE + 1];
        mixRow = new int[4];
    }

    // ---- 1 the cafe

    public int cafe(int sheet, int sort, int i, int n) {
        latestFault = 0;
        if (isNoSheet(sheet)) {
            return UNKNOWN;
        }
        if (isNoSort(sort)) {
            return OUTSIDE;
        }
        Sheet text = sheets[sheet];
        if (text.has && text.sort != sort) {
            return failed(FAULT_CAST);
        }
        if (!text.has) {
            return failed(FAULT_NULL);
        }
        if (n < 0) {
            return failed(FAULT_SIZE);
        }
        if (!text.reaches(i, n)) {
            return failed(FAULT_INDEX);
        }
        int wrong = firstFault(text, i, n);
        if (wrong != NONE) {
            return -100 - wrong;
        }
        house.takeText(text, i, n);
        groups.count = 0;
        forget();
        return house.tables;
    }

    public int ofTable(int t, int what) {
        if (t < 0 || t >= house.tables) {
            return UNKNOWN;
        }
        if (what < 0 || what > 1) {
            return OUTSIDE;
        }
        return what == 0 ? house.where[t] : house.seats[t];
    }

    public int rule(int v) {
        if (v < 0 || v > 2) {
            return OUTSIDE;
        }
        if (isNoCafe()) {
            return STATE;
        }
        int was = house.rule;
        house.rule = v;
        forget();
        return was;
    }

    public int patience(int v) {
        if (v < 0 || v > MOST_PATIENCE) {
            return OUTSIDE;
        }
        if (isNoCafe()) {
            return STATE;
        }
        int was = house.patience;
        house.patience = v;
        forget();
        return was;
    }

    public int joining(boolean is) {
        if (isNoCafe()) {
            return STATE;
        }
        if (house.joins == is) {
            return 0;
        }
        house.joins = is;
        forget();
        return 1;
    }

    public int rain(int m) {
        if (m != NONE && (m < 0 || m >= MINUTES)) {
            return OUTSIDE;
        }
        if (isNoCafe()) {
            return STATE;
        }
        house.rainAt = m;
        forget();
        return 1;
    }

    // ---- 2 groups

    public int group(int kind, int size, int comes, int stay, int wants, int lure) {
        if (isNoKind(kind) || size < 1 || size > 6 || comes < 0 || comes > 99) {
            return OUTSIDE;
        }
        if (stay < 1 || stay > 60 || wants < SUN || wants > INSIDE || lure < 0 || lure > 6) {
            return OUTSIDE;
        }
        if (isNoCafe()) {
            return STATE;
        }
        int number = groups.count;
        if (number >= MOST_GROUPS) {
            return FULL;
        }
        if (kind == 0) {
            groups.row[number] = new Guest(number, size, comes, stay, wants, lure);
        } else if (kind == 1) {
            groups.row[number] = new Staying(number, size, comes, stay, wants, lure);
        } else {
            groups.row[number] = new Looked(number, size, comes, stay, wants, lure);
        }
        groups.count = number + 1;
        forget();
        return number;
    }

    public int ofGroup(int g, int what) {
        Guest guest = groups.numbered(g);
        if (guest == null) {
            return UNKNOWN;
        }
        switch (what) {
            case 0: return guest.kindNumber();
            case 1: return guest.size;
            case 2: return guest.comes;
            case 3: return guest.stay;
            case 4: return guest.wants;
            case 5: return guest.lure;
            case 6: return guest.staysFor(false);
            default: return OUTSIDE;
        }
    }

    // ---- 3 the day

    public int day(int g, int what) {
        Guest guest = groups.numbered(g);
        if (guest == null) {
            return UNKNOWN;
        }
        if (what < 0 || what > 5) {
            return OUTSIDE;
        }
        reckonDay();
        switch (what) {
            case 0: return present.how[g];
            case 1: return present.first[g];
            case 2: return present.from[g];
            case 3: return present.until[g];
            case 4: return present.coinOf(g);
            default: return present.waited[g];
        }
    }

    public int taken(int m, int what) {
        if (m < 0 || m >= MINUTES || what < 0 || what > 1) {
            return OUTSIDE;
        }
        if (isNoCafe()) {
            return STATE;
        }
        trial.run(house, NOBODY, m);
        return what == 0 ? trial.tablesTaken() : trial.othersWaiting(NOBODY);
    }

    public int coin() {
        if (isNoCafe()) {
            return STATE;
        }
        reckonDay();
        return present.coinInAll();
    }

    public long worth(int g) {
        if (groups.numbered(g) == null) {
            return LOST;
        }
        reckonDay();
        int without = trial.run(house, g, MINUTES - 1);
        return (long) present.coinInAll() - without;
    }

    // ---- 4 the best

    public int plan(int q) {
        if (q < -1 || q >= Math.min(groups.count, PLANNED_GROUPS)) {
            return UNKNOWN;
        }
        if (isNoCafe()) {
            return STATE;
        }
        if (!planStands) {
            bestPlan.find();
            planStands = true;
        }
        return q == -1 ? bestPlan.most : bestPlan.bestAt[q];
    }

    public int bestRule(int what) {
        if (what < 0 || what > 1) {
            return OUTSIDE;
        }
        if (isNoCafe()) {
            return STATE;
        }
        otherHouse.copyOf(house);
        int best = 0;
        int most = -1;
        for (int v = 0; v <= 2; v++) {
            otherHouse.rule = v;
            int got = trial.run(otherHouse, NOBODY, MINUTES - 1);
            if (got > most) {
                most = got;
                best = v;
            }
        }
        return what == 0 ? best : most;
    }

    public int waiting(int what) {
        if (what < 0 || what > 1) {
            return OUTSIDE;
        }
        if (isNoCafe()) {
            return STATE;
        }
        reckonCoins();
        int best = 0;
        for (int v = 1; v <= MOST_PATIENCE; v++) {
            if (coinByPatience[v] > coinByPatience[best]) {
                best = v;
            }
        }
        return what == 0 ? best : coinByPatience[best];
    }

    public int mix(int s, int what) {
        if (s < 2 || s > 24 || what < 0 || what > 3) {
            return OUTSIDE;
        }
        if (isNoCafe()) {
            return STATE;
        }
        if (mixSeats != s) {
            findMix(s);
            mixSeats = s;
        }
        return mixRow[what];
    }

    public int till(int coin, int what) {
        if (what < 0 || what > 2) {
            return OUTSIDE;
        }
        if (isNoCafe()) {
            return STATE;
        }
        reckonCoins();
        int many = 0;
        int least = NONE;
        int greatest = NONE;
        for (int v = 0; v <= MOST_PATIENCE; v++) {
            if (coinByPatience[v] == coin) {
                many++;
                least = least == NONE ? v : least;
                greatest = v;
            }
        }
        if (what == 0) {
            return many;
        }
        return what == 1 ? least : greatest;
    }

    // ---- 5 names

    public long names(int n, int p, int c, int coin, int cost, int which) {
        if (n < 0 || n > MOST_NAMES || which < 0 || which > 1 || isNoTaking(p, c, coin, cost)) {
            return LOST;
        }
        long upper = awaited(n, p, c, coin, cost);
        long lower = power(100, n);
        long common = commonDivisor(Math.abs(upper), lower);
        if (common < 1) {
            return LOST;
        }
        return which == 0 ? upper / common : lower / common;
    }

    public int take(int p, int c, int coin, int cost) {
        if (isNoTaking(p, c, coin, cost)) {
            return OUTSIDE;
        }
        int best = 0;
        long most = 0;
        for (int n = 1; n <= MOST_NAMES; n++) {
            // All are brought to hundredths of the greatest n, so that they compare without a rest.
            long got = awaited(n, p, c, coin, cost) * power(100, MOST_NAMES - n);
            if (got > most) {
                most = got;
                best = n;
            }
        }
        return best;
    }

    // ---- 6 sheets, parts

    public int sheet(int k, int sort, int n) {
        latestFault = 0;
        if (isNoSheet(k)) {
            return UNKNOWN;
        }
        if (isNoSort(sort) || n > MOST_CELLS) {
            return OUTSIDE;
        }
        if (n < 0) {
            return failed(FAULT_SIZE);
        }
        sheets[k].renew(sort, n);
        return 1;
    }

    public int lose(int k) {
        if (isNoSheet(k)) {
            return UNKNOWN;
        }
        if (!sheets[k].has) {
            return 0;
        }
        sheets[k].has = false;
        return 1;
    }

    public int put(int k, int i, int v) {
        latestFault = 0;
        if (isNoSheet(k)) {
            return UNKNOWN;
        }
        Sheet to = sheets[k];
        if (!to.has) {
            return failed(FAULT_NULL);
        }
        if (i < 0 || i >= to.length) {
            return failed(FAULT_INDEX);
        }
        to.cells[i] = to.cut(v);
        return 1;
    }

    public long cell(int k, int i, int sort) {
        latestFault = 0;
        if (isNoSheet(k) || isNoSort(sort)) {
            return LOST;
        }
        Sheet of = sheets[k];
        if (of.has && of.sort != sort) {
            return lostBy(FAULT_CAST);
        }
        if (!of.has) {
            return lostBy(FAULT_NULL);
        }
        if (i < 0 || i >= of.length) {
            return lostBy(FAULT_INDEX);
        }
        return of.cells[i];
    }

    public int copy(int k, int i, int other, int j, int n) {
        latestFault = 0;
        if (isNoSheet(k) || isNoSheet(other)) {
            return UNKNOWN;
        }
        Sheet source = sheets[k];
        Sheet target = sheets[other];
        if (!source.has || !target.has) {
            return failed(FAULT_NULL);
        }
        if (source.sort != target.sort) {
            return failed(FAULT_CAST);
        }
        if (!source.reaches(i, n) || !target.reaches(j, n)) {
            return failed(FAULT_INDEX);
        }
        System.arraycopy(source.cells, i, target.cells, j, n);
        return n;
    }

    public int tell(int g) {
        Guest guest = groups.numbered(g);
        return guest == null ? UNKNOWN : guest.telling(marks);
    }

    public int serve(int g) {
        Guest guest = groups.numbered(g);
        return guest == null ? UNKNOWN : guest.served(marks);
    }

    public int as(int g, int kind) {
        latestFault = 0;
        Guest guest = groups.numbered(g);
        if (guest == null) {
            return UNKNOWN;
        }
        if (isNoKind(kind)) {
            return OUTSIDE;
        }
        boolean is = kind == 0 || (kind == 1 ? guest instanceof Staying : guest instanceof Looked);
        return is ? 1 : failed(FAULT_CAST);
    }

    public int trace() {
        return marks.value;
    }

    public int fault() {
        return latestFault;
    }

    public int many(int what) {
        switch (what) {
            case 0: return house.tables;
            case 1: return groups.count;
            case 2: return house.rule;
            case 3: return house.patience;
            case 4: return house.joins ? 1 : 0;
            case 5: return house.rainAt;
            case 6: return house.seatsInAll();
            default: return OUTSIDE;
        }
    }

    // ---- what the calls share

    private boolean isNoCafe() {
        return house.tables == 0;
    }

    private static boolean isNoSheet(int k) {
        return k < 0 || k >= MOST_SHEETS;
    }

    private static boolean isNoSort(int sort) {
        return sort < 0 || sort > 2;
    }

    private static boolean isNoKind(int kind) {
        return kind < 0 || kind > 2;
    }

    private static boolean isNoTaking(int p, int c, int coin, int cost) {
        return p < 0 || p > 100 || c < 0 || c > 8 || coin < 0 || coin > 9 || cost < 0 || cost > 9;
    }

    private int failed(int which) {
        latestFault = which;
        return -10 - which;
    }

    private long lostBy(int which) {
        latestFault = which;
        return LOST;
    }

    private void forget() {
        dayStands = false;
        planStands = false;
        coinsStand = false;
        mixSeats = 0;
    }

    private void reckonDay() {
        if (!dayStands) {
            present.run(house, NOBODY, MINUTES - 1);
            dayStands = true;
        }
    }

    private void reckonCoins() {
        if (coinsStand) {
            return;
        }
        otherHouse.copyOf(house);
        for (int v = 0; v <= MOST_PATIENCE; v++) {
            otherHouse.patience = v;
            coinByPatience[v] = trial.run(otherHouse, NOBODY, MINUTES - 1);
        }
        coinsStand = true;
    }

    /** Tries all mixes in the order of their rows, so that the first of several stays. */
    private void findMix(int s) {
        otherHouse.copyOf(house);
        otherHouse.rainAt = NONE;
        mixRow[0] = -1;
        for (int twos = 0; twos <= MOST_TABLES; twos++) {
            for (int fours = 0; fours <= MOST_TABLES - twos; fours++) {
                for (int sixes = 0; sixes <= MOST_TABLES - twos - fours; sixes++) {
                    if (2 * twos + 4 * fours + 6 * sixes > s) {
                        continue;
                    }
                    otherHouse.mixTables(twos, fours, sixes);
                    keepBetterMix(trial.run(otherHouse, NOBODY, MINUTES - 1), twos, fours, sixes);
                }
            }
        }
    }

    private void keepBetterMix(int got, int twos, int fours, int sixes) {
        if (got > mixRow[0]) {
            mixRow[0] = got;
            mixRow[1] = twos;
            mixRow[2] = fours;
            mixRow[3] = sixes;
        }
    }

    /** The place of the first code with which no text goes on, or NONE if it is one. */
    private static int firstFault(Sheet text, int i, int n) {
        for (int p = 0; p < n; p++) {
            if (!goesOn(p, text.cells[i + p])) {
                return p;
            }
        }
        return n % 3 == 2 ? NONE : n;
    }

    /** Each table takes three places, the ; behind it counted, so the place tells what may stand there. */
    private static boolean goesOn(int p, int code) {
        int part = p % 3;
        if (part == 0) {
            return placeOf(code) != NONE;
        }
        if (part == 1) {
            return code >= '1' && code <= '6';
        }
        return code == ';' && p < 3 * MOST_TABLES - 1;
    }

    private static int placeOf(int code) {
        switch (code) {
            case 's': return SUN;
            case 'w': return WINDOW;
            case 'i': return INSIDE;
            default: return NONE;
        }
    }

    /** What is to be awaited of n names, told over 100 to the power n (72 times that at most: a long holds it). */
    private static long awaited(int n, int p, int c, int coin, int cost) {
        long sum = 0;
        for (int k = 0; k <= n; k++) {
            long cases = choices(n, k) * power(p, k) * power(100 - p, n - k);
            sum += cases * (coin * Math.min(k, c) - cost * Math.max(0, k - c));
        }
        return sum;
    }

    private static long choices(int n, int k) {
        long got = 1;
        for (int j = 1; j <= k; j++) {
            got = got * (n - j + 1) / j;
        }
        return got;
    }

    private static long power(long base, int times) {
        long got = 1;
        for (int j = 0; j < times; j++) {
            got *= base;
        }
        return got;
    }

    private static long commonDivisor(long a, long b) {
        long left = a;
        long right = b;
        for (int step = 0; step < 200 && right != 0; step++) {
            long rest = left % right;
            left = right;
            right = rest;
        }
        return left;
    }

    // ---- the parts

    /** The tables and the ways of the house. */
    private static final class House {
        final int[] where = new int[MOST_TABLES];
        final int[] seats = new int[MOST_TABLES];
        int tables;
        int rule;
        int patience;
        int rainAt = NONE;
        boolean joins;

        void takeText(Sheet text, int i, int n) {
            tables = Math.min((n + 1) / 3, MOST_TABLES);
            for (int t = 0; t < tables; t++) {
                where[t] = placeOf(text.cells[i + 3 * t]);
                seats[t] = text.cells[i + 3 * t + 1] - '0';
            }
            rule = 0;
            patience = 0;
            joins = false;
            rainAt = NONE;
        }

        void copyOf(House other) {
            tables = other.tables;
            for (int t = 0; t < MOST_TABLES; t++) {
                where[t] = other.where[t];
                seats[t] = other.seats[t];
            }
            rule = other.rule;
            patience = other.patience;
            joins = other.joins;
            rainAt = other.rainAt;
        }

        void mixTables(int twos, int fours, int sixes) {
            tables = Math.min(twos + fours + sixes, MOST_TABLES);
            for (int t = 0; t < tables; t++) {
                where[t] = INSIDE;
                seats[t] = t < twos ? 2 : t < twos + fours ? 4 : 6;
            }
        }

        int seatsInAll() {
            int sum = 0;
            for (int t = 0; t < tables; t++) {
                sum += seats[t];
            }
            return sum;
        }
    }

    private static final class Groups {
        final Guest[] row = new Guest[MOST_GROUPS];
        int count;

        /** The group of that number, or null if there is none. */
        Guest numbered(int g) {
            return g < 0 || g >= count ? null : row[g];
        }
    }

    private static final class Trace {
        int value;

        void mark(int number) {
            value = 31 * value + number;
        }
    }

    private static class Guest {
        final int number;
        final int size;
        final int comes;
        final int stay;
        final int wants;
        final int lure;

        Guest(int number, int size, int comes, int stay, int wants, int lure) {
            this.number = number;
            this.size = size;
            this.comes = comes;
            this.stay = stay;
            this.wants = wants;
            this.lure = lure;
        }

        int kindNumber() {
            return 0;
        }

        int staysFor(boolean othersWait) {
            return stay;
        }

        int coinFor(int minutes) {
            return size * (5 + minutes / 10);
        }

        /** Apart from telling(), so that a looked at one can leave the staying one's out. */
        final int guestBody(Trace marks) {
            marks.mark(1);
            return size;
        }

        int telling(Trace marks) {
            return guestBody(marks);
        }

        int served(Trace marks) {
            marks.mark(4);
            return number;
        }
    }

    private static class Staying extends Guest {
        Staying(int number, int size, int comes, int stay, int wants, int lure) {
            super(number, size, comes, stay, wants, lure);
        }

        @Override
        int kindNumber() {
            return 1;
        }

        @Override
        int staysFor(boolean othersWait) {
            return 2 * stay;
        }

        @Override
        int coinFor(int minutes) {
            return size * (5 + minutes / 20);
        }

        @Override
        int telling(Trace marks) {
            marks.mark(2);
            return super.telling(marks) + 100;
        }
    }

    private static final class Looked extends Staying {
        Looked(int number, int size, int comes, int stay, int wants, int lure) {
            super(number, size, comes, stay, wants, lure);
        }

        @Override
        int kindNumber() {
            return 2;
        }

        @Override
        int staysFor(boolean othersWait) {
            int twice = super.staysFor(othersWait);
            return othersWait ? twice + twice / 9 : twice;
        }

        @Override
        int telling(Trace marks) {
            marks.mark(3);
            int asStaying = super.telling(marks);
            return asStaying + guestBody(marks);
        }

        @Override
        int served(Trace marks) {
            marks.mark(5);
            return 50;
        }
    }

    /** One row, kept for good: a new row of the sheet is this one, cleared. */
    private static final class Sheet {
        final int[] cells = new int[MOST_CELLS];
        boolean has;
        int sort;
        int length;

        void renew(int newSort, int n) {
            Arrays.fill(cells, 0);
            has = true;
            sort = newSort;
            length = n;
        }

        int cut(int v) {
            if (sort == 0) {
                return (byte) v;
            }
            return sort == 1 ? (short) v : v;
        }

        /** Whether n cells from i on are there; none of them may begin just behind the last. */
        boolean reaches(int i, int n) {
            return i >= 0 && i <= length && n >= 0 && n <= length - i;
        }
    }

    /** A day, played anew by each run; how it went is read from its rows. */
    private static final class Day {
        private static final int SAT = 0, AWAY = 1, ON = 2, COMING = 3, WAITS = 4, SITS = 5;
        private static final int FREE = -1, SHUT = -2, ANYWHERE = -1;

        final int[] how = new int[MOST_GROUPS];
        final int[] first = new int[MOST_GROUPS];
        final int[] from = new int[MOST_GROUPS];
        final int[] until = new int[MOST_GROUPS];
        final int[] waited = new int[MOST_GROUPS];
        /** The groups by when they come, then by number. */
        private final int[] order = new int[MOST_GROUPS];
        private final int[] holder = new int[MOST_TABLES];
        private final Groups groups;
        private final Guest[] guests;
        private House house;
        private int listed;

        Day(House house, Groups groups) {
            this.house = house;
            this.groups = groups;
            guests = groups.row;
        }

        /** Plays the minutes up to the last one told, as if the one left out (perhaps nobody) never came: the coin. */
        int run(House at, int leftOut, int last) {
            house = at;
            begin(leftOut);
            for (int m = 0; m <= last; m = Math.max(m + 1, nextMinute(m))) {
                goWhoseTimeIsOver(m);
                if (m == house.rainAt) {
                    driveIn(m);
                }
                callWaiting(m);
                letCome(m);
            }
            return coinInAll();
        }

        int coinInAll() {
            int sum = 0;
            for (int k = 0; k < listed; k++) {
                sum += coinOf(order[k]);
            }
            return sum;
        }

        int coinOf(int g) {
            return from[g] == NONE ? 0 : guests[g].coinFor(until[g] - from[g]);
        }

        int tablesTaken() {
            int many = 0;
            for (int t = 0; t < house.tables; t++) {
                if (holder[t] >= 0) {
                    many++;
                }
            }
            return many;
        }

        int othersWaiting(int g) {
            int many = 0;
            for (int k = 0; k < listed; k++) {
                if (order[k] != g && how[order[k]] == WAITS) {
                    many++;
                }
            }
            return many;
        }

        private void begin(int leftOut) {
            Arrays.fill(holder, FREE);
            listed = 0;
            for (int g = 0; g < groups.count; g++) {
                how[g] = COMING;
                first[g] = NONE;
                from[g] = NONE;
                until[g] = NONE;
                waited[g] = 0;
                if (g != leftOut) {
                    list(g);
                }
            }
        }

        private void list(int g) {
            int at = listed;
            for (; at > 0 && guests[order[at - 1]].comes > guests[g].comes; at--) {
                order[at] = order[at - 1];
            }
            order[at] = g;
            listed++;
        }

        /** The next minute in which anything can change: who waits finds a table only after somebody got up. */
        private int nextMinute(int m) {
            int next = house.rainAt > m ? house.rainAt : MINUTES;
            for (int k = 0; k < listed; k++) {
                int g = order[k];
                if (how[g] == COMING) {
                    next = Math.min(next, guests[g].comes);
                } else if (how[g] == WAITS) {
                    next = Math.min(next, guests[g].comes + house.patience);
                } else if (how[g] == SITS) {
                    next = Math.min(next, until[g]);
                }
            }
            return next;
        }

        private void goWhoseTimeIsOver(int m) {
            for (int k = 0; k < listed; k++) {
                int g = order[k];
                if (how[g] == SITS && until[g] <= m) {
                    how[g] = SAT;
                    getUp(g);
                }
            }
        }

        private void getUp(int g) {
            for (int t = 0; t < house.tables; t++) {
                if (holder[t] == g) {
                    holder[t] = FREE;
                }
            }
        }

        private void driveIn(int m) {
            int risen = 0;
            for (int t = 0; t < house.tables; t++) {
                if (house.where[t] == SUN && holder[t] >= 0) {
                    risen |= 1 << holder[t];
                    // At two tables the other one is given up, too.
                    getUp(holder[t]);
                }
            }
            for (int t = 0; t < house.tables; t++) {
                if (house.where[t] == SUN) {
                    holder[t] = SHUT;
                }
            }
            for (int g = 0; g < MOST_GROUPS; g++) {
                if ((risen >> g & 1) == 1 && findPlace(g) == NONE) {
                    how[g] = SAT;
                    until[g] = m;
                }
            }
        }

        private void callWaiting(int m) {
            for (int k = 0; k < listed; k++) {
                int g = order[k];
                if (how[g] == WAITS && !sitDown(g, m) && m - guests[g].comes >= house.patience) {
                    how[g] = AWAY;
                    waited[g] = m - guests[g].comes;
                }
            }
        }

        private void letCome(int m) {
            for (int k = 0; k < listed; k++) {
                int g = order[k];
                if (how[g] != COMING || guests[g].comes != m) {
                    continue;
                }
                if (tablesTaken() < guests[g].lure) {
                    how[g] = ON;
                } else if (!sitDown(g, m)) {
                    how[g] = house.patience > 0 ? WAITS : AWAY;
                }
            }
        }

        private boolean sitDown(int g, int m) {
            int t = findPlace(g);
            if (t == NONE) {
                return false;
            }
            how[g] = SITS;
            first[g] = t;
            from[g] = m;
            until[g] = m + guests[g].staysFor(othersWaiting(g) > 0);
            waited[g] = m - guests[g].comes;
            return true;
        }

        /** Takes a table, or two, for a group: the least of them; NONE if there is none. */
        private int findPlace(int g) {
            Guest guest = guests[g];
            int t = house.rule == 2 ? oneTable(guest.size, guest.wants) : NONE;
            if (t == NONE) {
                t = oneTable(guest.size, ANYWHERE);
            }
            if (t != NONE) {
                holder[t] = g;
                return t;
            }
            t = house.joins ? twoTables(guest.size) : NONE;
            if (t != NONE) {
                holder[t] = g;
                holder[t + 1] = g;
            }
            return t;
        }

        private int oneTable(int size, int place) {
            int best = NONE;
            for (int t = 0; t < house.tables; t++) {
                boolean fits = holder[t] == FREE && house.seats[t] >= size;
                boolean there = place == ANYWHERE || house.where[t] == place;
                // By rule 0 the first table stays, however many its seats.
                boolean better = best == NONE || house.rule != 0 && house.seats[t] < house.seats[best];
                if (fits && there && better) {
                    best = t;
                }
            }
            return best;
        }

        private int twoTables(int size) {
            for (int t = 0; t + 1 < house.tables; t++) {
                boolean free = holder[t] == FREE && holder[t + 1] == FREE;
                if (free && house.seats[t] + house.seats[t + 1] >= size) {
                    return t;
                }
            }
            return NONE;
        }
    }

    /** Looks for the best that could have been had of the first groups, row by row in their order. */
    private static final class Plan {
        final int[] bestAt = new int[PLANNED_GROUPS];
        int most;
        private final int[] at = new int[PLANNED_GROUPS];
        private final int[] size = new int[PLANNED_GROUPS];
        private final int[] coins = new int[PLANNED_GROUPS];
        /** The groups, as bits, that are there at the same time as a group. */
        private final int[] clashes = new int[PLANNED_GROUPS];
        /** What the groups from one on could bring at most. */
        private final int[] hoped = new int[PLANNED_GROUPS + 1];
        /** The groups, as bits, that have been given a table. */
        private final int[] given = new int[MOST_TABLES];
        private final House house;
        private final Groups groups;
        private int planned;

        Plan(House house, Groups groups) {
            this.house = house;
            this.groups = groups;
        }

        void find() {
            planned = Math.min(groups.count, PLANNED_GROUPS);
            for (int g = 0; g < planned; g++) {
                Guest guest = groups.row[g];
                size[g] = guest.size;
                coins[g] = guest.coinFor(guest.staysFor(false));
                clashes[g] = clashesOf(g);
            }
            hoped[planned] = 0;
            for (int g = planned - 1; g >= 0; g--) {
                hoped[g] = hoped[g + 1] + (fitsSomewhere(g) ? coins[g] : 0);
            }
            Arrays.fill(given, 0);
            most = -1;
            place(0, 0);
        }

        private int clashesOf(int g) {
            Guest guest = groups.row[g];
            int bits = 0;
            for (int h = 0; h < planned; h++) {
                Guest other = groups.row[h];
                boolean before = other.comes + other.staysFor(false) <= guest.comes;
                boolean behind = guest.comes + guest.staysFor(false) <= other.comes;
                if (!before && !behind) {
                    bits |= 1 << h;
                }
            }
            return bits;
        }

        private boolean fitsSomewhere(int g) {
            for (int t = 0; t < house.tables; t++) {
                if (house.seats[t] >= size[g]) {
                    return true;
                }
            }
            return false;
        }

        /** Rows come in their order and only a better one is kept: so the first of several stays. */
        private void place(int g, int sum) {
            if (g > planned || sum + hoped[g] <= most) {
                return;
            }
            if (g == planned) {
                most = sum;
                for (int h = 0; h < planned; h++) {
                    bestAt[h] = at[h];
                }
                return;
            }
            for (int t = 0; t < house.tables; t++) {
                if (house.seats[t] >= size[g] && (given[t] & clashes[g]) == 0) {
                    given[t] |= 1 << g;
                    at[g] = t;
                    place(g + 1, sum + coins[g]);
                    given[t] &= ~(1 << g);
                }
            }
            at[g] = NONE;
            place(g + 1, sum);
        }
    }
}
