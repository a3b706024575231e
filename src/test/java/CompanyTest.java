/** Promises 17 to 20, 26 to 28, 30, 31, 33, 34: choices, talk, logs, parties, tables, hours, odds. */
public final class CompanyTest {
    private static final String THREE = "person 1 1;person 1 1;person 9 0;";

    public static void main(String[] args) {
        choices();
        talk();
        facts();
        fits();
        shares();
        parties();
        tables();
        hours();
        odds();
        emptyTown();
        Check.finish("CompanyTest");
    }

    private static void choices() {
        KeptCompany x = Check.with(Check.FOUR);
        int[][] due = {{0, -1}, {9, 1}, {4, 1}, {9, 1}, {7, 1}, {7, 1}};
        for (int n = 0; n <= 5; n++) {
            Check.due("choice of " + n, x.choice(0, n, false), due[n][0]);
            Check.due("choice of " + n + ", whom", x.choice(0, n, true), due[n][1]);
        }
        Check.due("choice of 6", x.choice(0, 6, false), -999);
        Check.due("choice of -1", x.choice(0, -1, true), -999);
        Check.due("no TOWN", x.choice(1, 1, false), -999);
        // Who has 0 loses 1: after 0 by the first, the second takes 2, and the first must take 1.
        x = Check.with("person 9 0;person 8 0;person 0 0;hate 0 1;");
        Check.due("loses", x.choice(0, 3, false), 1);
        Check.due("loses, whom", x.choice(0, 3, true), 0);
        Check.due("least that is best", Check.with("person 3 0;person 3 0;").choice(0, 2, true), 0);
        Check.due("one alone", Check.with("person 3 0;").choice(0, 5, false), 3);
    }

    private static void talk(KeptCompany x, int person, int p, int n, long over, long under) {
        String call = "talk(0, " + person + ", " + p + ", " + n + ")";
        Check.due(call, x.talk(0, person, p, n, false), over);
        Check.due(call + " under", x.talk(0, person, p, n, true), under);
    }

    private static void talk() {
        KeptCompany x = Check.with(Check.FOUR);
        talk(x, 3, 5, 3, 1, 2);
        talk(x, 3, 5, 2, 1, 4);
        talk(x, 3, 5, 1, 0, 1);
        talk(x, 3, 5, 0, 0, 1);
        talk(x, 3, 10, 2, 1, 1);
        talk(x, 3, 0, 12, 0, 1);
        talk(x, 1, 3, 3, 27, 1000);
        talk(x, 1, 1, 12, 22173995549L, 200000000000L);
        talk(x, 2, 5, 12, 0, 1);
        talk(x, 3, -1, 0, -1, -1);
        talk(x, 3, 11, 0, -1, -1);
        talk(x, 3, 5, -1, -1, -1);
        talk(x, 3, 5, 13, -1, -1);
        talk(x, 4, 5, 3, -1, -1);
        talk(x, -1, 5, 3, -1, -1);
        Check.due("no TOWN", x.talk(1, 0, 5, 3, false), -1);
        talk(Check.with(THREE), 0, 0, 0, 1, 1);
        talk(Check.with(THREE + "owes 0 1 12;"), 0, 1, 12, 1, 1000000000000L);
    }

    private static void facts() {
        KeptCompany x = Check.with("", Check.LOG, "together 0 1;apart 5 2;");
        Check.due("FACTS", x.fact(0, -1, 0), 2);
        int[][] due = {{0, 0, 1}, {1, 5, 2}};
        for (int k = 0; k < 2; k++) {
            for (int what = 0; what < 3; what++) {
                Check.due("fact(0, " + k + ", " + what + ")", x.fact(0, k, what), due[k][what]);
            }
            Check.due("what 3", x.fact(0, k, 3), -2);
            Check.due("what -1", x.fact(0, k, -1), -2);
        }
        Check.due("FACTS, what 1", x.fact(0, -1, 1), -2);
        Check.due("FACT 2", x.fact(0, 2, 0), -2);
        Check.due("FACT -2", x.fact(0, -2, 0), -2);
        Check.due("LOG 1", x.fact(1, -1, 0), -2);
        Check.due("LOG -1", x.fact(-1, -1, 0), -2);
    }

    private static void fits(String town, String log, int sure, int watch, int... all) {
        KeptCompany x = Check.with(town, Check.LOG, log);
        Check.due("how many FIT " + log, x.fits(0, 0, 0), all.length);
        Check.due("SURE " + log, x.fits(0, 0, 1), sure);
        Check.due("WATCH " + log, x.fits(0, 0, 2), watch);
        for (int k = 0; k < all.length; k++) {
            Check.due("the " + k + "-th that FITS " + log, x.fits(0, 0, 10 + k), all[k]);
        }
        Check.due("no more FIT " + log, x.fits(0, 0, 10 + all.length), -2);
        for (int what : new int[] {-1, 3, 9, Integer.MIN_VALUE, Integer.MAX_VALUE}) {
            Check.due("fits what " + what, x.fits(0, 0, what), -2);
        }
        Check.due("no TOWN", x.fits(1, 0, 0), -2);
        Check.due("no LOG", x.fits(0, 1, 0), -2);
    }

    private static void fits() {
        fits(THREE, "", -1, 1, 2, 4, 6, 101, 104, 105, 201, 202, 203);
        fits(THREE + "hate 0 1;", "", -1, 1, 2, 4, 6, 101, 104, 105, 201, 202);
        fits(THREE, "together 0 1;apart 2 0;", -1, 1, 2, 101);
        fits(THREE, "together 0 1;apart 0 1;", -1, -1);
        fits(THREE, "together 0 3;", -1, -1);
        fits(THREE, "apart 0 3;", -1, -1);
        fits(THREE + "hate 0 1;hate 0 2;", "together 0 1;together 0 2;", 0, 1, 6);
        fits("person 0 0;", "", -1, -1);
        fits("", "", -1, -1);
        fits(Check.FOUR, "together 0 1;apart 0 2;", -1, 3, 2, 10, 101, 303);
    }

    private static void share(KeptCompany x, int a, int b, long over, long under) {
        Check.due("share of " + a + ", " + b, x.share(0, 0, a, b, false), over);
        Check.due("share of " + a + ", " + b + " under", x.share(0, 0, a, b, true), under);
    }

    private static void shares() {
        KeptCompany x = Check.with(THREE, Check.LOG, "");
        share(x, 0, 1, 5, 9);
        x = Check.with(THREE + "hate 0 1;", Check.LOG, "");
        share(x, 0, 1, 1, 2);
        share(x, 2, 0, 1, 2);
        share(x, 0, 0, -1, -1);
        share(x, 0, 3, -1, -1);
        share(x, -1, 0, -1, -1);
        Check.due("no TOWN", x.share(1, 0, 0, 1, false), -1);
        Check.due("no LOG", x.share(0, 1, 0, 1, false), -1);
        Check.due("fewest", x.fewest(0, 0, false), 1);
        Check.due("most", x.fewest(0, 0, true), 2);
        Check.due("no TOWN", x.fewest(1, 0, false), -1);
        Check.due("no LOG", x.fewest(0, 1, true), -1);
        Check.tell(x, Check.LOG, 0, "together 0 1;");
        share(x, 0, 1, 1, 1);
        Check.tell(x, Check.LOG, 0, "apart 0 1;");
        share(x, 0, 1, 0, 1);
        Check.tell(x, Check.LOG, 0, "together 0 1;together 0 2;");
        Check.due("fewest", x.fewest(0, 0, false), 2);
        Check.tell(x, Check.LOG, 0, "together 0 1;apart 1 0;");
        share(x, 0, 1, -1, -1);
        Check.due("nothing FITS", x.fewest(0, 0, false), -1);
        Check.due("nothing FITS", x.fewest(0, 0, true), -1);
    }

    private static void parties() {
        KeptCompany x = Check.with(Check.FOUR);
        int[][] due = {{0, 0}, {9, 2}, {14, 3}, {-1, -1}, {-1, -1}, {-1, -1}, {-1, -1}};
        for (int n = 0; n < due.length; n++) {
            Check.due("party of " + n, x.party(0, n, false), due[n][0]);
            Check.due("party of " + n + ", who", x.party(0, n, true), due[n][1]);
        }
        Check.due("party of -1", x.party(0, -1, false), -1);
        Check.due("party of 7", x.party(0, 7, true), -1);
        Check.due("no TOWN", x.party(1, 0, false), -1);
        Check.due("party of three", Check.with(THREE).party(0, 3, false), 11);
    }

    private static void row(String name, KeptCompany x, boolean tables, int many, int... row) {
        Check.due(name, tables ? x.tables(0, -1) : x.hour(0, -1), many);
        for (int k = 0; k < row.length; k++) {
            Check.due(name + " " + k, tables ? x.tables(0, k) : x.hour(0, k), row[k]);
        }
        Check.due(name + " beyond", tables ? x.tables(0, row.length) : x.hour(0, row.length), -1);
        Check.due(name + " -2", tables ? x.tables(0, -2) : x.hour(0, -2), -1);
        Check.due(name + ", no TOWN", tables ? x.tables(1, -1) : x.hour(1, -1), -1);
    }

    private static void tables() {
        row("tables", Check.with(Check.FOUR), true, 2, 0, 0, 1, 1);
        row("tables of three", Check.with(THREE), true, 1, 0, 0, 0);
        row("all hate", Check.with(THREE + "hate 0 1;hate 1 2;hate 2 0;"), true, 3, 0, 1, 2);
        row("tables of nobody", Check.with(""), true, 0);
        row("not at the first free one", Check.with(THREE + "person 0 0;hate 0 2;hate 2 3;hate 3 1;"), true, 2, 0, 1, 1, 0);
    }

    private static void hours() {
        row("hour", Check.with(Check.FOUR), false, 4, 1, 3, 0, 2);
        row("nobody OWES", Check.with(THREE), false, 0, 6, 6, 6);
        row("hour of nobody", Check.with(""), false, 0);
        row("two who hate", Check.with(THREE + "hate 0 1;owes 2 0 1;owes 2 1 1;"), false, 1, 2, 6, 6);
        row("two who do not", Check.with(THREE + "owes 2 0 1;owes 2 1 1;"), false, 2, 2, 2, 6);
        row("one of 0", Check.with(THREE + "hate 1 2;owes 0 1 1;owes 0 2 1;owes 1 2 1;"), false, 2, 6, 0, 1);
    }

    private static void odds() {
        KeptCompany x = Check.with(Check.FOUR);
        Check.due("meet", x.meet(0, false, false), 1);
        Check.due("meet under", x.meet(0, false, true), 3);
        Check.due("meet owes", x.meet(0, true, false), 2);
        Check.due("meet owes under", x.meet(0, true, true), 3);
        Check.due("no TOWN", x.meet(1, true, true), -1);
        Check.due("nobody hates", Check.with(THREE).meet(0, false, false), 0);
        Check.due("nobody hates, under", Check.with(THREE).meet(0, false, true), 1);
        Check.due("one alone", Check.with("person 0 0;").meet(0, false, true), -1);
        Check.due("guest", x.guest(0, 20, false), 3);
        Check.due("guest under", x.guest(0, 20, true), 4);
        Check.due("guest of 21", x.guest(0, 21, true), 4);
        Check.due("guest of 0", x.guest(0, 0, true), 1);
        Check.due("guest of 99", x.guest(0, 99, false), 0);
        Check.due("guest of 99 under", x.guest(0, 99, true), 1);
        Check.due("guest of 100", x.guest(0, 100, false), -1);
        Check.due("guest of -1", x.guest(0, -1, false), -1);
        Check.due("no TOWN", x.guest(1, 0, false), -1);
    }

    private static void emptyTown() {
        KeptCompany x = Check.with("");
        Check.due("guest of nobody", x.guest(0, 0, true), -1);
        Check.due("meet of nobody", x.meet(0, true, true), -1);
        Check.due("party of 0", x.party(0, 0, false), 0);
        Check.due("party of 1", x.party(0, 1, false), -1);
        Check.due("choice", x.choice(0, 3, false), 0);
        Check.due("choice, whom", x.choice(0, 3, true), -1);
    }
}
