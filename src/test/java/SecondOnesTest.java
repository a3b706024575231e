import java.util.ArrayList;
import java.util.List;

/** TOWN 1, WEEK 1 and LOG 1 are asked as TOWN 0, WEEK 0 and LOG 0 are, whatever stands beside them and was asked before. */
public final class SecondOnesTest {
    private static final String[] TOWNS = {Check.FOUR + "person 7 31;person 0 99;hate 4 5;hate 4 1;owes 5 4 9;owes 4 0 2;",
        "", "person 1 1;",
        "person 9 3;person 4 1;owes 1 0 9;", "person 0 9;person 1 2;person 2 1;hate 0 2;owes 2 1 1;owes 1 2 2;", Check.FOUR,
        "person 5 9;person 5 0;person 5 0;person 5 0;person 1 1;hate 3 4;owes 4 0 30;owes 0 4 2;",
        "person 3 40;".repeat(6) + "hate 0 1;owes 0 1 3;owes 2 1 4;"};
    private static final String[] WEEKS = {"sit 1 0;silent 2;lend 5 2 9;hour;sit 3 2;forgive 1 3 1;pay 5 4 3;hour;sit 4 5;sit 4 5;", "",
        "hour;".repeat(40), "lend 0 1 1;sit 0 1;hour;sit 0 1;", "sit 1 2;sit 2 1;hour;silent 2;", "silent 3;sit 1 3;sit 0 1;hour;",
        "forgive 0 4 30;", "sit 1 0;sit 1 2;"};
    private static final String[] LOGS = {"together 0 1;apart 2 3;", "", "apart 0 1;".repeat(8), "together 0 1;",
        "apart 0 2;", "apart 0 3;together 1 2;",
        "together 4 3;", "together 4 5;apart 0 1;"};

    public static void main(String[] args) {
        Check.says("Terms 1", "TOWNS, at most 2 (sort 0), WEEKS, at most 2 (1), LOGS, at most 2 (2), from 0 on.");
        List<List<Long>> due = new ArrayList<>();
        for (int i = 0; i < TOWNS.length; i++) {
            KeptCompany alone = new KeptCompany();
            tell(alone, -1, i);
            due.add(answers(alone, 0, 0, 0));
        }
        for (int i = 0; i < TOWNS.length; i++) {
            for (int j = 0; j < TOWNS.length; j++) {
                two(i, j, due);
            }
        }
        Check.finish("SecondOnesTest");
    }

    private static void two(int i, int j, List<List<Long>> due) {
        KeptCompany x = new KeptCompany();
        tell(x, -1, i);
        tell(x, -1, j);
        compare("the first, " + i + " before " + j, answers(x, 0, 0, 0), due.get(i));
        compare("the second, " + j + " behind " + i, answers(x, 1, 1, 1), due.get(j));
        compare("the first again, " + i + " before " + j, answers(x, 0, 0, 0), due.get(i));
        tell(x, 1, i);
        compare("the second, " + i + " in the place of " + j, answers(x, 1, 1, 1), due.get(i));
        compare("the first with the second, " + i, answers(x, 0, 1, 0), due.get(i));
        compare("the second with the first, " + i, answers(x, 1, 0, 1), due.get(i));
        tell(x, 0, j);
        compare("the second, " + i + ", the first being " + j, answers(x, 1, 1, 1), due.get(i));
        compare("the first, " + j + " in the place of " + i, answers(x, 0, 0, 0), due.get(j));
    }

    private static void tell(KeptCompany x, int at, int i) {
        Check.due("TOWN " + i + " is told", Check.tell(x, Check.TOWN, at, TOWNS[i]) >= 0, true);
        Check.due("WEEK " + i + " is told", Check.tell(x, Check.WEEK, at, WEEKS[i]) >= 0, true);
        Check.due("LOG " + i + " is told", Check.tell(x, Check.LOG, at, LOGS[i]) >= 0, true);
    }

    private static void compare(String name, List<Long> got, List<Long> want) {
        Check.due(name + ", answers", got.size(), want.size());
        for (int i = 0; i < want.size(); i++) {
            Check.due(name + ", answer " + i, got.get(i), want.get(i));
        }
    }

    private static List<Long> answers(KeptCompany x, int t, int w, int l) {
        List<Long> all = new ArrayList<>();
        ofTown(all, x, t);
        ofPeople(all, x, t);
        all.add((long) x.till(t, w));
        for (int k = -1; k < 12; k++) {
            all.add((long) x.after(t, w, k));
            all.add((long) x.fits(t, l, k));
            for (int what = 0; what < 4; what++) {
                all.add((long) x.deed(w, k, what));
                all.add((long) x.fact(l, k, what));
            }
            for (int what = 0; what < 160; what++) {
                all.add((long) x.state(t, w, k, what));
            }
        }
        for (int a = 0; a < 6; a++) {
            for (int b = 0; b < 6; b++) {
                all.add(x.share(t, l, a, b, false));
                all.add(x.share(t, l, a, b, true));
            }
        }
        all.add((long) x.fewest(t, l, false));
        all.add((long) x.fewest(t, l, true));
        return all;
    }

    private static void ofTown(List<Long> all, KeptCompany x, int t) {
        for (int what = 0; what < 170; what++) {
            all.add((long) x.town(t, what));
            all.add((long) x.ring(t, what));
            all.add((long) x.drawn(t, 77, 60, what));
        }
        for (int n = 0; n < 100; n += 9) {
            all.add((long) x.relief(t, n));
            all.add(x.guest(t, n, false));
            all.add(x.guest(t, n, true));
        }
        for (boolean yes : new boolean[] {false, true}) {
            all.add((long) x.rota(t, yes));
            all.add(x.meet(t, yes, false));
            all.add(x.meet(t, yes, true));
            for (int n = 0; n <= 6; n++) {
                all.add((long) x.party(t, n, yes));
                all.add((long) x.choice(t, n, yes));
            }
        }
        all.add((long) x.settled(t));
    }

    private static void ofPeople(List<Long> all, KeptCompany x, int t) {
        for (int p = -1; p <= 6; p++) {
            all.add((long) x.court(t, p, false));
            all.add((long) x.court(t, p, true));
            all.add((long) x.net(t, p));
            all.add((long) x.wealth(t, p));
            all.add((long) x.ruin(t, p));
            all.add((long) x.lenders(t, p));
            all.add((long) x.chain(t, p));
            all.add((long) x.tables(t, p));
            all.add((long) x.hour(t, p));
            all.add(x.talk(t, p, 3, 12, false));
            all.add(x.talk(t, p, 3, 12, true));
            for (int from = -1; from < 6; from++) {
                all.add((long) x.borrow(t, p, 77, from));
            }
        }
    }
}
