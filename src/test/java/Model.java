import java.math.BigInteger;
import java.util.ArrayList;
import java.util.List;
import java.util.Random;

/** A TOWN in the plainest form, which tries all there is, to hold the program's answers against. */
final class Model {
    final int people;
    final int[] wit;
    final int[] purse;
    final int[][] owes;
    final boolean[][] hate;

    private int best;
    private int[] bestRow;

    Model(Random random) {
        people = random.nextInt(4) == 0 ? random.nextInt(4) : 3 + random.nextInt(4);
        wit = new int[people];
        purse = new int[people];
        owes = new int[people][people];
        hate = new boolean[people][people];
        int wits = 1 + random.nextInt(10);
        int purses = random.nextBoolean() ? 4 : 100;
        int debts = random.nextInt(11);
        int sums = random.nextBoolean() ? 3 : 31;
        int hates = random.nextInt(11);
        for (int a = 0; a < people; a++) {
            wit[a] = random.nextInt(wits);
            purse[a] = random.nextInt(purses);
            for (int b = 0; b < people; b++) {
                if (a != b && random.nextInt(10) < debts) {
                    owes[a][b] = random.nextInt(sums);
                }
                if (a < b && random.nextInt(10) < hates) {
                    hate[a][b] = true;
                    hate[b][a] = true;
                }
            }
        }
    }

    /** Some lines of what there is; the lines of one TOWN may be too long for the tape, so small ones are left out. */
    String text() {
        StringBuilder text = new StringBuilder();
        for (int a = 0; a < people; a++) {
            text.append("person").append(wit[a]).append(' ').append(purse[a]).append(';');
        }
        for (int a = 0; a < people; a++) {
            for (int b = 0; b < people; b++) {
                if (a < b && hate[a][b]) {
                    text.append("hate").append(a).append('\n').append(b).append(';');
                }
                if (owes[a][b] > 0) {
                    text.append("owes").append(a).append(' ').append(b).append(' ').append(owes[a][b]).append(';');
                }
            }
        }
        return text.toString();
    }

    int debt(int p) {
        int sum = 0;
        for (int q = 0; q < people; q++) {
            sum += owes[p][q];
        }
        return sum;
    }

    int credit(int p) {
        int sum = 0;
        for (int q = 0; q < people; q++) {
            sum += owes[q][p];
        }
        return sum;
    }

    /** Least bits of the most he OWES, found by growing sets of PEOPLE who all HATE each other. */
    int[] court(int p) {
        int[] found = {0, 0};
        for (int set = (1 << people) - 1; set >= 0; set--) {
            int sum = 0;
            boolean all = true;
            for (int a = 0; a < people; a++) {
                for (int b = 0; b < people; b++) {
                    if (a != b && (set & 1 << a) != 0 && (set & 1 << b) != 0 && !hate[a][b]) {
                        all = false;
                    }
                }
                sum += (set & 1 << a) != 0 ? owes[p][a] : 0;
            }
            if (all && sum >= found[0]) {
                found = new int[] {sum, set};
            }
        }
        return found;
    }

    /** The fewest payments: whoever is first uneven settles his whole sum with some later one. */
    int settled() {
        int[] nets = new int[people];
        for (int p = 0; p < people; p++) {
            nets[p] = credit(p) - debt(p);
        }
        return settle(nets, 0);
    }

    private int settle(int[] nets, int from) {
        int p = from;
        while (p < nets.length && nets[p] == 0) {
            p++;
        }
        if (p == nets.length) {
            return 0;
        }
        int least = 99;
        for (int q = p + 1; q < nets.length; q++) {
            if (nets[q] != 0) {
                nets[q] += nets[p];
                least = Math.min(least, 1 + settle(nets, p + 1));
                nets[q] -= nets[p];
            }
        }
        return least;
    }

    int ruin(int person) {
        boolean[] ruined = new boolean[people];
        ruined[person] = true;
        for (boolean more = true; more;) {
            more = false;
            for (int p = 0; p < people; p++) {
                int has = purse[p];
                for (int q = 0; q < people; q++) {
                    has += ruined[q] ? 0 : owes[q][p];
                }
                if (!ruined[p] && debt(p) > has) {
                    ruined[p] = true;
                    more = true;
                }
            }
        }
        int bits = 0;
        for (int p = 0; p < people; p++) {
            bits |= ruined[p] ? 1 << p : 0;
        }
        return bits;
    }

    /** Pound by pound from the wittiest who has one left. */
    int[] borrow(int person, int n) {
        int[] from = new int[people + 1];
        for (int i = 0; i < n; i++) {
            int to = -1;
            for (int p = 0; p < people; p++) {
                if (p != person && from[p] < purse[p] && (to < 0 || wit[p] > wit[to])) {
                    to = p;
                }
            }
            if (to < 0) {
                return null;
            }
            from[to]++;
            from[people] += 10 - wit[to];
        }
        return from;
    }

    /** The rows come in rising order: the first of most stays. */
    int[] lenders() {
        best = -1;
        bestRow = new int[people];
        lend(new int[people], 0, 0);
        return withSum();
    }

    private int[] withSum() {
        int[] all = java.util.Arrays.copyOf(bestRow, people + 1);
        all[people] = best;
        return all;
    }

    private void lend(int[] row, int p, int sum) {
        if (p == people) {
            if (sum > best) {
                best = sum;
                bestRow = row.clone();
            }
            return;
        }
        for (int to = 0; to <= 6; to++) {
            boolean may = to == 6 || to < people && to != p;
            for (int q = 0; q < p; q++) {
                may &= to == 6 || row[q] != to;
            }
            if (may) {
                row[p] = to;
                lend(row, p + 1, sum + (to < 6 && purse[p] > purse[to] ? wit[to] : 0));
            }
        }
    }

    int[] choice(int n) {
        return choose(n, new int[people], 1);
    }

    /** who[p]: 1 the first has him, -1 the second; the answer is of the first: how much more, whom. */
    private int[] choose(int n, int[] who, int turn) {
        int[] found = null;
        for (int p = 0; p < people && n > 0; p++) {
            if (who[p] == 0) {
                boolean hated = false;
                for (int q = 0; q < people; q++) {
                    hated |= who[q] == turn && hate[p][q];
                }
                who[p] = turn;
                int sum = turn * (hated ? -wit[p] : wit[p]) + choose(n - 1, who, -turn)[0];
                who[p] = 0;
                if (found == null || turn * sum > turn * found[0]) {
                    found = new int[] {sum, p};
                }
            }
        }
        return found == null ? new int[] {0, -1} : found;
    }

    /** Over all rows of hours with or without talk. */
    BigInteger[] talk(int person, int p, int n) {
        BigInteger sum = BigInteger.ZERO;
        for (int hours = 0; hours < 1 << n; hours++) {
            int talks = Integer.bitCount(hours);
            if (talks >= debt(person)) {
                sum = sum.add(BigInteger.valueOf(p).pow(talks).multiply(BigInteger.valueOf(10 - p).pow(n - talks)));
            }
        }
        BigInteger all = BigInteger.TEN.pow(n);
        BigInteger common = sum.gcd(all);
        return new BigInteger[] {sum.divide(common), all.divide(common)};
    }

    List<Integer> fits(int[][] facts) {
        List<Integer> all = new ArrayList<>();
        for (int number = 0; number < 600; number++) {
            int debtor = number / 100;
            int set = number % 100;
            boolean fit = debtor < people && set > 0 && set < 1 << people && (set & 1 << debtor) == 0;
            for (int a = 0; a < people; a++) {
                for (int b = 0; b < people; b++) {
                    fit &= (set & 1 << a) == 0 || (set & 1 << b) == 0 || !hate[a][b];
                }
            }
            for (int[] fact : facts) {
                fit &= fact[1] < people && fact[2] < people;
                fit &= together(number, fact[1], fact[2]) == (fact[0] == 0);
            }
            if (fit) {
                all.add(number);
            }
        }
        return all;
    }

    static boolean together(int number, int a, int b) {
        boolean hasA = number / 100 == a || (number % 100 & 1 << a) != 0;
        boolean hasB = number / 100 == b || (number % 100 & 1 << b) != 0;
        return hasA && hasB;
    }

    int ring() {
        best = 99;
        for (int p = 0; p < people; p++) {
            walk(p, p, 1 << p, 1);
        }
        return best == 99 ? -1 : best;
    }

    private void walk(int home, int p, int used, int many) {
        for (int q = 0; q < people; q++) {
            if (owes[p][q] > 0 && q == home && many >= 2) {
                best = Math.min(best, many);
            } else if (owes[p][q] > 0 && (used & 1 << q) == 0) {
                walk(home, q, used | 1 << q, many + 1);
            }
        }
    }

    List<Integer> chain() {
        List<Integer> longest = new ArrayList<>();
        extend(new ArrayList<>(), longest);
        return longest;
    }

    private void extend(List<Integer> row, List<Integer> longest) {
        if (row.size() > longest.size()) {
            longest.clear();
            longest.addAll(row);
        }
        for (int q = 0; q < people; q++) {
            if (!row.contains(q) && (row.isEmpty() || owes[row.get(row.size() - 1)][q] > 0)) {
                row.add(q);
                extend(row, longest);
                row.remove(row.size() - 1);
            }
        }
    }

    int[] party(int n) {
        int[] found = {-1, -1};
        for (int set = (1 << people) - 1; set >= 0; set--) {
            int sum = 0;
            boolean none = Integer.bitCount(set) == n;
            for (int a = 0; a < people; a++) {
                for (int b = 0; b < people; b++) {
                    none &= (set & 1 << a) == 0 || (set & 1 << b) == 0 || !hate[a][b];
                }
                sum += (set & 1 << a) != 0 ? wit[a] : 0;
            }
            if (none && sum >= found[0]) {
                found = new int[] {sum, set};
            }
        }
        return found;
    }

    int[] tables() {
        best = 99;
        bestRow = new int[people];
        seat(new int[people], 0, 0);
        return withSum();
    }

    private void seat(int[] row, int p, int many) {
        if (p == people) {
            if (many < best) {
                best = many;
                bestRow = row.clone();
            }
            return;
        }
        for (int table = 0; table < people; table++) {
            boolean may = true;
            for (int q = 0; q < p; q++) {
                may &= row[q] != table || !hate[p][q];
            }
            if (may) {
                row[p] = table;
                seat(row, p + 1, Math.max(many, table + 1));
            }
        }
    }

    int[] hour() {
        best = -1;
        bestRow = new int[people];
        sit(new int[people], 0, 0);
        return withSum();
    }

    private void sit(int[] row, int p, int many) {
        if (p == people) {
            if (many > best) {
                best = many;
                bestRow = row.clone();
            }
            return;
        }
        for (int with = 0; with <= 6; with++) {
            boolean may = with == 6 || with < people && owes[with][p] > 0;
            for (int q = 0; q < p; q++) {
                may &= with == 6 || row[q] != with || !hate[p][q];
            }
            if (may) {
                row[p] = with;
                sit(row, p + 1, many + (with < 6 ? 1 : 0));
            }
        }
    }

    int feud(int person) {
        boolean[] seen = new boolean[people];
        reach(person, seen);
        int bits = 0;
        for (int p = 0; p < people; p++) {
            bits |= seen[p] ? 1 << p : 0;
        }
        return bits;
    }

    private void reach(int p, boolean[] seen) {
        seen[p] = true;
        for (int q = 0; q < people; q++) {
            if (hate[p][q] && !seen[q]) {
                reach(q, seen);
            }
        }
    }
}
