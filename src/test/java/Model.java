import java.util.ArrayList;
import java.util.Arrays;
import java.util.List;

/** The document's words played out as plainly as can be, every minute of 400, to hold the class against. */
final class Model {
    static final int NONE = -9;
    final List<int[]> tables = new ArrayList<>();
    final List<int[]> groups = new ArrayList<>();
    int rule;
    int patience;
    boolean joining;
    int rain = NONE;

    /** What a day was. */
    static final class Told {
        final int[] how = new int[8];
        final int[] table = new int[8];
        final int[] from = new int[8];
        final int[] until = new int[8];
        final int[] coin = new int[8];
        final int[] waited = new int[8];
        final int[] taken = new int[400];
        final int[] waiting = new int[400];
        int sum;
    }

    Model like() {
        Model m = new Model();
        m.tables.addAll(tables);
        m.groups.addAll(groups);
        m.rule = rule;
        m.patience = patience;
        m.joining = joining;
        m.rain = rain;
        return m;
    }

    static int stays(int[] group, boolean somebodyWaits) {
        if (group[0] == 0) {
            return group[3];
        }
        int twice = 2 * group[3];
        return group[0] == 2 && somebodyWaits ? twice + twice / 9 : twice;
    }

    static int coin(int[] group, int minutes) {
        return group[1] * (5 + (group[0] == 0 ? minutes / 10 : minutes / 20));
    }

    Told play(int without) {
        Told told = new Told();
        Arrays.fill(told.table, NONE);
        Arrays.fill(told.from, NONE);
        Arrays.fill(told.until, NONE);
        List<Integer> queue = new ArrayList<>();
        List<Integer> sitting = new ArrayList<>();
        List<List<Integer>> at = new ArrayList<>();
        for (int g = 0; g < 8; g++) {
            at.add(new ArrayList<>());
        }
        boolean rained = false;
        for (int m = 0; m < 400; m++) {
            for (int g = 0; g < groups.size(); g++) {
                if (sitting.contains(g) && told.until[g] == m) {
                    sitting.remove((Integer) g);
                    at.get(g).clear();
                }
            }
            if (m == rain) {
                rained = true;
                List<Integer> risen = new ArrayList<>();
                for (int g = 0; g < groups.size(); g++) {
                    if (at.get(g).stream().anyMatch(t -> tables.get(t)[0] == 0)) {
                        risen.add(g);
                    }
                }
                for (int g : risen) {
                    at.get(g).clear();
                }
                for (int g : risen) {
                    at.get(g).addAll(place(groups.get(g), at, true));
                    if (at.get(g).isEmpty()) {
                        sitting.remove((Integer) g);
                        told.until[g] = m;
                    }
                }
            }
            for (int g : new ArrayList<>(queue)) {
                List<Integer> place = place(groups.get(g), at, rained);
                if (!place.isEmpty()) {
                    queue.remove((Integer) g);
                    sit(told, g, m, place, !queue.isEmpty());
                    sitting.add(g);
                    at.get(g).addAll(place);
                } else if (m - groups.get(g)[2] >= patience) {
                    queue.remove((Integer) g);
                    told.how[g] = 1;
                    told.waited[g] = m - groups.get(g)[2];
                }
            }
            for (int g = 0; g < groups.size(); g++) {
                if (g == without || groups.get(g)[2] != m) {
                    continue;
                }
                if (takenNow(at) < groups.get(g)[5]) {
                    told.how[g] = 2;
                    continue;
                }
                List<Integer> place = place(groups.get(g), at, rained);
                if (!place.isEmpty()) {
                    sit(told, g, m, place, !queue.isEmpty());
                    sitting.add(g);
                    at.get(g).addAll(place);
                } else if (patience > 0) {
                    queue.add(g);
                } else {
                    told.how[g] = 1;
                }
            }
            told.taken[m] = takenNow(at);
            told.waiting[m] = queue.size();
        }
        for (int g = 0; g < groups.size(); g++) {
            if (told.from[g] != NONE) {
                told.coin[g] = coin(groups.get(g), told.until[g] - told.from[g]);
                told.sum += told.coin[g];
            }
        }
        return told;
    }

    private void sit(Told told, int g, int m, List<Integer> place, boolean somebodyWaits) {
        told.table[g] = place.get(0);
        told.from[g] = m;
        told.until[g] = m + stays(groups.get(g), somebodyWaits);
        told.waited[g] = m - groups.get(g)[2];
    }

    private static int takenNow(List<List<Integer>> at) {
        return at.stream().mapToInt(List::size).sum();
    }

    private boolean free(int t, List<List<Integer>> at, boolean rained) {
        return at.stream().noneMatch(held -> held.contains(t)) && !(rained && tables.get(t)[0] == 0);
    }

    private List<Integer> place(int[] group, List<List<Integer>> at, boolean rained) {
        List<Integer> fit = new ArrayList<>();
        for (int t = 0; t < tables.size(); t++) {
            if (free(t, at, rained) && tables.get(t)[1] >= group[1]) {
                fit.add(t);
            }
        }
        if (rule == 2 && fit.stream().anyMatch(t -> tables.get(t)[0] == group[4])) {
            fit.removeIf(t -> tables.get(t)[0] != group[4]);
        }
        if (rule != 0) {
            fit.sort((a, b) -> tables.get(a)[1] != tables.get(b)[1] ? tables.get(a)[1] - tables.get(b)[1] : a - b);
        }
        if (!fit.isEmpty()) {
            return List.of(fit.get(0));
        }
        for (int t = 0; joining && t + 1 < tables.size(); t++) {
            if (free(t, at, rained) && free(t + 1, at, rained) && tables.get(t)[1] + tables.get(t + 1)[1] >= group[1]) {
                return List.of(t, t + 1);
            }
        }
        return List.of();
    }

    /** Coin, then the row: all rows of tables and 9 are gone through in their order. */
    int[] plan() {
        int n = Math.min(6, groups.size());
        int[] best = new int[n + 1];
        best[0] = -1;
        int[] choice = new int[n];
        long rows = 1;
        for (int g = 0; g < n; g++) {
            rows *= tables.size() + 1;
        }
        for (long row = 0; row < rows; row++) {
            long rest = row;
            for (int g = n - 1; g >= 0; g--) {
                int c = (int) (rest % (tables.size() + 1));
                rest /= tables.size() + 1;
                choice[g] = c == tables.size() ? NONE : c;
            }
            int sum = coinOf(choice);
            if (sum > best[0]) {
                best[0] = sum;
                System.arraycopy(choice, 0, best, 1, n);
            }
        }
        return best;
    }

    private int coinOf(int[] choice) {
        int sum = 0;
        for (int g = 0; g < choice.length; g++) {
            if (choice[g] == NONE) {
                continue;
            }
            int[] a = groups.get(g);
            if (tables.get(choice[g])[1] < a[1]) {
                return -1;
            }
            for (int h = 0; h < g; h++) {
                int[] b = groups.get(h);
                boolean meet = a[2] < b[2] + stays(b, false) && b[2] < a[2] + stays(a, false);
                if (choice[h] == choice[g] && meet) {
                    return -1;
                }
            }
            sum += coin(a, stays(a, false));
        }
        return sum;
    }

    int[] mix(int s) {
        int[] best = {-1, 0, 0, 0};
        for (int twos = 0; twos <= 6; twos++) {
            for (int fours = 0; fours <= 6; fours++) {
                for (int sixes = 0; sixes <= 6; sixes++) {
                    if (twos + fours + sixes > 6 || 2 * twos + 4 * fours + 6 * sixes > s) {
                        continue;
                    }
                    Model m = like();
                    m.rain = NONE;
                    m.tables.clear();
                    for (int t = 0; t < twos + fours + sixes; t++) {
                        m.tables.add(new int[] {2, t < twos ? 2 : t < twos + fours ? 4 : 6});
                    }
                    int sum = m.play(-1).sum;
                    if (sum > best[0]) {
                        best = new int[] {sum, twos, fours, sixes};
                    }
                }
            }
        }
        return best;
    }
}
