import java.math.BigInteger;
import java.util.List;
import java.util.Random;

/** Promises 6 to 34 of many TOWNS, WEEKS and LOGS, each held against what trying everything finds. */
public final class ModelTest {
    private static final String[] DEEDS = {"sit", "lend", "pay", "forgive", "silent", "talks", "hour"};

    public static void main(String[] args) {
        Random random = new Random(20261118);
        int told = 0;
        while (told < 700) {
            Model m = new Model(random);
            String text = m.text();
            if (text.length() > 600) {
                continue;
            }
            told++;
            KeptCompany x = Check.with(text);
            asTold(x, m);
            debts(x, m);
            company(x, m, random);
            odds(x, m, random);
            week(x, m, random);
            drawn(x, m, random);
            log(x, m, random);
        }
        Check.finish("ModelTest");
    }

    private static void asTold(KeptCompany x, Model m) {
        Check.due("PEOPLE", x.town(0, 0), m.people);
        for (int a = 0; a < m.people; a++) {
            Check.due("WIT", x.town(0, 10 + a), m.wit[a]);
            Check.due("PURSE", x.town(0, 20 + a), m.purse[a]);
            int bits = 0;
            for (int b = 0; b < m.people; b++) {
                bits |= m.hate[a][b] ? 1 << b : 0;
                Check.due("OWES", x.town(0, 100 + 10 * a + b), m.owes[a][b]);
            }
            Check.due("HATES", x.town(0, 30 + a), bits);
        }
    }

    private static void row(String name, int[] got, int[] due) {
        for (int i = 0; i < due.length; i++) {
            Check.due(name + " " + i + " of " + java.util.Arrays.toString(due), got[i], due[i]);
        }
    }

    private static void debts(KeptCompany x, Model m) {
        int rota = -1;
        int richest = -1;
        int favourite = -1;
        int loners = 0;
        for (int p = 0; p < m.people; p++) {
            int net = m.credit(p) - m.debt(p);
            Check.due("net", x.net(0, p), net);
            Check.due("wealth", x.wealth(0, p), net + m.purse[p]);
            row("court", new int[] {x.court(0, p, false), x.court(0, p, true)}, m.court(p));
            Check.due("ruin", x.ruin(0, p), m.ruin(p));
            rota = rota < 0 || m.credit(p) > m.credit(rota) ? p : rota;
            richest = richest < 0 || x.wealth(0, p) > x.wealth(0, richest) ? p : richest;
            favourite = favourite < 0 || debtors(m, p) > debtors(m, favourite) ? p : favourite;
            loners |= m.debt(p) == 0 && m.credit(p) == 0 ? 1 << p : 0;
        }
        Check.due("rota", x.rota(0, true), rota);
        Check.due("rota", x.rota(0, false), rota < 0 ? 0 : m.credit(rota));
        Check.due("settled", x.settled(0), m.settled());
        Check.due("RING", x.ring(0, 1), m.ring());
        Check.due("RICHEST", x.ring(0, 2), richest);
        Check.due("FAVOURITE", x.ring(0, 4), favourite);
        Check.due("LONERS", x.ring(0, 6), loners);
        int mutual = 0;
        int twins = 0;
        for (int a = 0; a < m.people; a++) {
            for (int b = 0; b < a; b++) {
                mutual += Math.min(m.owes[a][b], m.owes[b][a]);
                twins += m.wit[a] == m.wit[b] && m.purse[a] == m.purse[b] ? 1 : 0;
            }
        }
        Check.due("MUTUAL", x.ring(0, 0), mutual);
        Check.due("TWINS", x.ring(0, 3), twins);
        List<Integer> chain = m.chain();
        Check.due("chain", x.chain(0, -1), chain.size());
        for (int k = 0; k <= chain.size(); k++) {
            Check.due("chain " + k, x.chain(0, k), k < chain.size() ? chain.get(k) : -1);
        }
        for (int y = 0; y < 100; y += 9) {
            int relief = 0;
            for (int p = 0; p < m.people; p++) {
                relief += m.debt(p) > y ? m.debt(p) - y : 0;
            }
            Check.due("relief", x.relief(0, y), relief);
        }
    }

    private static int debtors(Model m, int p) {
        int many = 0;
        for (int q = 0; q < m.people; q++) {
            many += m.owes[q][p] > 0 ? 1 : 0;
        }
        return many;
    }

    private static void company(KeptCompany x, Model m, Random random) {
        int[] lenders = new int[m.people + 1];
        int[] tables = new int[m.people + 1];
        int[] hour = new int[m.people + 1];
        int feuds = 0;
        Integer[] bores = new Integer[m.people];
        for (int p = 0; p <= m.people; p++) {
            int k = p == m.people ? -1 : p;
            lenders[p] = x.lenders(0, k);
            tables[p] = x.tables(0, k);
            hour[p] = x.hour(0, k);
            if (p < m.people) {
                int feud = m.feud(p);
                Check.due("FEUD", x.ring(0, 20 + p), feud);
                feuds += Integer.numberOfTrailingZeros(feud) == p ? 1 : 0;
                bores[p] = p;
            }
        }
        row("lenders", lenders, m.lenders());
        row("tables", tables, m.tables());
        row("hour", hour, m.hour());
        Check.due("FEUDS", x.ring(0, 5), feuds);
        java.util.Arrays.sort(bores, (a, b) -> m.wit[a] - m.wit[b]);
        for (int k = 0; k <= m.people; k++) {
            Check.due("BORES", x.ring(0, 10 + k), k < m.people ? bores[k] : -2);
        }
        for (int n = 0; n <= 6; n++) {
            row("party", new int[] {x.party(0, n, false), x.party(0, n, true)}, m.party(n));
            if (n < 6) {
                row("choice", new int[] {x.choice(0, n, false), x.choice(0, n, true)}, m.choice(n));
            }
        }
        for (int i = 0; i < 4 && m.people > 0; i++) {
            int person = random.nextInt(m.people);
            int n = 1 + random.nextInt(random.nextBoolean() ? 99 : 9);
            int[] due = m.borrow(person, n);
            for (int from = -1; from < m.people; from++) {
                int want = due == null ? -1 : from < 0 ? due[m.people] : due[from];
                Check.due("borrow", x.borrow(0, person, n, from), want);
            }
        }
    }

    private static void odds(KeptCompany x, Model m, Random random) {
        int hate = 0;
        int owe = 0;
        int couples = 0;
        for (int a = 0; a < m.people; a++) {
            for (int b = 0; b < a; b++) {
                couples++;
                hate += m.hate[a][b] ? 1 : 0;
                owe += m.owes[a][b] > 0 || m.owes[b][a] > 0 ? 1 : 0;
            }
        }
        fraction("meet", x.meet(0, false, false), x.meet(0, false, true), hate, couples);
        fraction("meet owes", x.meet(0, true, false), x.meet(0, true, true), owe, couples);
        for (int n = 0; n < 100; n += 3) {
            int rich = 0;
            for (int p = 0; p < m.people; p++) {
                rich += m.purse[p] >= n ? 1 : 0;
            }
            fraction("guest", x.guest(0, n, false), x.guest(0, n, true), rich, m.people);
        }
        for (int p = 0; p < m.people; p++) {
            int by = random.nextInt(11);
            int n = random.nextInt(13);
            BigInteger[] due = m.talk(p, by, n);
            Check.due("talk", x.talk(0, p, by, n, false), due[0].longValueExact());
            Check.due("talk", x.talk(0, p, by, n, true), due[1].longValueExact());
        }
    }

    private static void fraction(String name, long over, long under, int many, int all) {
        if (all == 0) {
            Check.due(name, over, -1);
            Check.due(name, under, -1);
            return;
        }
        int common = BigInteger.valueOf(many).gcd(BigInteger.valueOf(all)).intValue();
        Check.due(name, over, many / common);
        Check.due(name + " under", under, all / common);
    }

    /** Of ten tries at a DEED, the first that can be is told, so that WEEKS go on for long. */
    private static void week(KeptCompany x, Model m, Random random) {
        int many = random.nextInt(41);
        int[][] deeds = new int[many][];
        StringBuilder text = new StringBuilder();
        Days days = new Days(m);
        int end = many;
        for (int k = 0; k < many; k++) {
            boolean may = false;
            for (int i = 0; i < 10 && !may; i++) {
                deeds[k] = deed(random, m.people);
                may = end == many && days.act(deeds[k][0], deeds[k][1], deeds[k][2], deeds[k][3], k);
            }
            end = end == many && !may ? k : end;
            text.append(DEEDS[deeds[k][0]]);
            for (int i = 1; i < 4; i++) {
                boolean has = deeds[k][0] < 6 && i == 1 || deeds[k][0] < 4 && i == 2 || deeds[k][0] % 4 > 0 && deeds[k][0] < 4;
                text.append(has ? " " + deeds[k][i] : "");
                deeds[k][i] = has ? deeds[k][i] : -1;
            }
            text.append(';');
        }
        if (text.length() > 600) {
            return;
        }
        Check.due("WEEK " + text, Check.tell(x, Check.WEEK, -1, text.toString()), 0);
        Check.due("till", x.till(0, 0), end);
        for (int what = -1; what < 9; what++) {
            Check.due("after " + what, x.after(0, 0, what), days.after(what));
        }
        Days again = new Days(m);
        for (int n = 0; n <= many; n++) {
            boolean is = n <= end;
            if (is && n > 0) {
                int[] d = deeds[n - 1];
                again.act(d[0], d[1], d[2], d[3], n - 1);
            }
            for (int i = 0; i < 6; i++) {
                int what = what(random);
                Check.due("state " + n + " " + what, x.state(0, 0, n, what), is ? again.tell(what) : -1);
            }
            for (int what = 0; what < 4 && n < many; what++) {
                Check.due("deed", x.deed(0, n, what), deeds[n][what]);
            }
        }
        sameAtTheEnd(x, again, end);
    }

    private static void sameAtTheEnd(KeptCompany x, Days days, int end) {
        for (int what = -1; what < 170; what++) {
            Check.due("state " + end + " " + what, x.state(0, 0, end, what), days.tell(what));
        }
    }

    private static int what(Random random) {
        int kind = random.nextInt(4);
        if (kind == 0) {
            return random.nextInt(6) - 1;
        }
        return kind == 3 ? 100 + 10 * random.nextInt(7) + random.nextInt(10) : 10 * kind + random.nextInt(10);
    }

    private static int[] deed(Random random, int people) {
        int among = random.nextInt(40) == 0 || people < 2 ? 6 : people;
        int a = random.nextInt(among);
        int b = (a + 1 + random.nextInt(among - 1)) % among;
        int kind = random.nextInt(3) == 0 ? 0 : random.nextInt(7);
        return new int[] {kind, a, b, 1 + random.nextInt(random.nextBoolean() ? 3 : 30)};
    }

    private static void drawn(KeptCompany x, Model m, Random random) {
        for (int i = 0; i < 5; i++) {
            int seed = random.nextInt();
            int n = random.nextInt(61);
            Days days = new Days(m);
            days.draw(seed, n);
            for (int what = -1; what < 170; what++) {
                Check.due("drawn " + what, x.drawn(0, seed, n, what), days.tell(what));
            }
        }
    }

    private static void log(KeptCompany x, Model m, Random random) {
        int[][] facts = new int[random.nextInt(random.nextBoolean() ? 4 : 9)][];
        StringBuilder text = new StringBuilder();
        for (int k = 0; k < facts.length; k++) {
            int[] d = deed(random, m.people);
            facts[k] = new int[] {random.nextInt(2), d[1], d[2]};
            text.append(facts[k][0] == 0 ? "together " : "apart ").append(d[1]).append(' ').append(d[2]).append(";\n");
        }
        Check.due("LOG", Check.tell(x, Check.LOG, -1, text.toString()), 0);
        List<Integer> all = m.fits(facts);
        Check.due("fits", x.fits(0, 0, 0), all.size());
        int fewest = 99;
        int most = -1;
        boolean sure = !all.isEmpty();
        for (int k = 0; k < all.size(); k++) {
            Check.due("fits " + k, x.fits(0, 0, 10 + k), all.get(k));
            fewest = Math.min(fewest, Integer.bitCount(all.get(k) % 100));
            most = Math.max(most, Integer.bitCount(all.get(k) % 100));
            sure &= all.get(k) / 100 == all.get(0) / 100;
        }
        Check.due("SURE", x.fits(0, 0, 1), sure ? all.get(0) / 100 : -1);
        Check.due("fewest", x.fewest(0, 0, false), all.isEmpty() ? -1 : fewest);
        Check.due("most", x.fewest(0, 0, true), most);
        int watch = -1;
        int least = 999;
        for (int a = 0; a < m.people; a++) {
            for (int b = 0; b < m.people; b++) {
                int many = 0;
                for (int number : all) {
                    many += Model.together(number, a, b) ? 1 : 0;
                }
                if (a < b && !all.isEmpty() && Math.max(many, all.size() - many) < least) {
                    least = Math.max(many, all.size() - many);
                    watch = 10 * a + b;
                }
                fraction("share", x.share(0, 0, a, b, false), x.share(0, 0, a, b, true), many, a == b ? 0 : all.size());
            }
        }
        Check.due("WATCH", x.fits(0, 0, 2), watch);
    }
}
