/** How a Model lives on, deed by deed, in the plainest form. */
final class Days {
    final Model town;
    final int[] purse;
    final int[][] owes;
    final int[] with;
    final boolean[] silent;
    final int[] sat;
    final int[] satWith;
    int hour = 0;
    int first = -1;
    int vain = 0;
    int lent = 0;
    int forgiven = 0;
    int sundays = 0;
    private int seed;

    Days(Model town) {
        this.town = town;
        purse = town.purse.clone();
        owes = new int[town.people][];
        for (int p = 0; p < town.people; p++) {
            owes[p] = town.owes[p].clone();
        }
        with = new int[town.people];
        java.util.Arrays.fill(with, 6);
        silent = new boolean[town.people];
        sat = new int[town.people];
        satWith = new int[town.people];
    }

    boolean act(int kind, int a, int b, int sum, int at) {
        boolean one = kind == 4 || kind == 5;
        if (kind != 6 && (a >= town.people || !one && b >= town.people)) {
            return false;
        }
        switch (kind) {
            case 0:
                return sit(a, b, at);
            case 1:
                if (purse[a] - sum < 0 || purse[b] + sum >= 100 || owes[b][a] + sum >= 100) {
                    return false;
                }
                purse[a] -= sum;
                purse[b] += sum;
                owes[b][a] += sum;
                lent += sum;
                return true;
            case 2:
                if (purse[a] - sum < 0 || purse[b] + sum >= 100 || owes[a][b] - sum < 0) {
                    return false;
                }
                purse[a] -= sum;
                purse[b] += sum;
                owes[a][b] -= sum;
                return true;
            case 3:
                if (owes[b][a] - sum < 0) {
                    return false;
                }
                owes[b][a] -= sum;
                forgiven += sum;
                return true;
            case 4:
            case 5:
                silent[a] = kind == 4;
                return true;
            default:
                pass();
                return true;
        }
    }

    private boolean sit(int a, int b, int at) {
        if (owes[b][a] == 0 || with[a] != 6) {
            return false;
        }
        for (int p = 0; p < town.people; p++) {
            if (with[p] == b && town.hate[p][a]) {
                return false;
            }
        }
        with[a] = b;
        sat[a]++;
        satWith[b]++;
        first = first < 0 ? at : first;
        vain += silent[b] ? 1 : 0;
        owes[b][a] -= silent[b] ? 0 : 1;
        return true;
    }

    private void pass() {
        hour++;
        java.util.Arrays.fill(with, 6);
        if (hour % 10 == 0) {
            sundays++;
            for (int[] row : owes) {
                for (int p = 0; p < row.length; p++) {
                    row[p] = row[p] > 0 && row[p] < 99 ? row[p] + 1 : row[p];
                }
            }
        }
    }

    void draw(int x, int n) {
        seed = x;
        for (int i = 0; i < n; i++) {
            int what = next(10);
            if (what > 7) {
                act(6, 0, 0, 0, i);
            } else if (town.people > 1) {
                int a = next(town.people);
                int b = what < 6 ? (next(town.people - 1) + 1 + a) % town.people : 0;
                int sum = what > 2 && what < 6 ? next(5) + 1 : 0;
                act(Math.max(0, what - 2), a, b, sum, i);
            }
        }
    }

    private int next(int n) {
        long wide = (seed & 0xffffffffL) * 1103515245L + 12345L;
        seed = (int) wide;
        return (int) ((wide & 0xffffffffL) / 65536 % n);
    }

    int tell(int what) {
        int bits = 0;
        int sum = 0;
        for (int p = 0; p < town.people; p++) {
            for (int q = 0; q < town.people; q++) {
                if (what == 100 + 10 * p + q) {
                    return owes[p][q];
                }
                sum += what == 1 ? owes[p][q] : 0;
            }
            sum += what == 2 ? sat[p] : 0;
            bits |= what == 3 && silent[p] || what == 4 && with[p] < 6 ? 1 << p : 0;
            if (what == 10 + p) {
                return purse[p];
            }
            if (what == 20 + p) {
                return with[p];
            }
        }
        if (what == 0) {
            return hour;
        }
        return what == 1 || what == 2 ? sum : what == 3 || what == 4 ? bits : -1;
    }

    int after(int what) {
        int free = 0;
        for (int p = 0; p < town.people; p++) {
            int sum = 0;
            for (int q = 0; q < town.people; q++) {
                sum += owes[p][q];
            }
            free += sum == 0 ? 1 << p : 0;
        }
        int[] all = {first, most(sat), most(satWith), vain, lent, forgiven, sundays, free};
        return what >= 0 && what < 8 ? all[what] : -2;
    }

    private static int most(int[] times) {
        int best = -1;
        for (int p = times.length - 1; p >= 0; p--) {
            if (times[p] > 0 && (best < 0 || times[p] >= times[best])) {
                best = p;
            }
        }
        return best;
    }
}
