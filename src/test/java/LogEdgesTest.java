/** Each sentence of the fourth of the Terms (by a LOG in a TOWN) that names a boundary case: promises 20, 33 and 34. */
public final class LogEdgesTest {
    private static final int MIN = Integer.MIN_VALUE;
    private static final int MAX = Integer.MAX_VALUE;
    private static final String TWO = "person 0 0;person 0 0;";
    private static final String THREE = TWO + "person 0 0;";
    private static final String FOUR = TWO + TWO;
    private static final String SIX = TWO + TWO + TWO;
    private static final String ALL_HATE = "hate 0 1;hate 0 2;hate 0 3;hate 0 4;hate 0 5;hate 1 2;hate 1 3;hate 1 4;hate 1 5;"
        + "hate 2 3;hate 2 4;hate 2 5;hate 3 4;hate 3 5;hate 4 5;";

    public static void main(String[] args) {
        someOthers();
        noneHate();
        together();
        apart();
        theTwoAreThere();
        allOfSix();
        oneAlone();
        sure();
        watch();
        fitsAnswers();
        shares();
        shareAnswers();
        fewest();
        Check.finish("LogEdgesTest");
    }

    private static void fits(String town, String log, long... all) {
        KeptCompany x = Check.with(town, Check.LOG, log);
        Check.due("how many FIT, " + town + log, x.fits(0, 0, 0), all.length);
        Check.dueRow("FITS, " + town + log, k -> x.fits(0, 0, 10 + k), all);
        Check.due("no more FIT, " + town + log, x.fits(0, 0, 10 + all.length), -2);
    }

    private static void someOthers() {
        Check.says("Terms 4", "one PERSON is the debtor, and some others (one or more) sit with him ... 100 times the "
            + "debtor, and those others (bits)");
        fits("", "");
        fits("person 0 0;", "");
        fits(TWO, "", 2, 101);
        fits(THREE, "", 2, 4, 6, 101, 104, 105, 201, 202, 203);
        fits(THREE + "owes 0 1 5;", "", 2, 4, 6, 101, 104, 105, 201, 202, 203);
    }

    private static void noneHate() {
        Check.says("Terms 4", "none of whom HATE each other");
        fits(TWO + "hate 0 1;", "", 2, 101);
        fits(THREE + "hate 0 1;", "", 2, 4, 6, 101, 104, 105, 201, 202);
        fits(THREE + "hate 0 1;hate 1 2;hate 2 0;", "", 2, 4, 101, 104, 201, 202);
        fits(THREE + "hate 0 1;", "together 0 1;together 1 2;", 6, 105);
        KeptCompany all = Check.with(SIX + ALL_HATE, Check.LOG, "");
        Check.due("each with one alone", all.fits(0, 0, 0), 30);
        Check.due("the last", all.fits(0, 0, 39), 516);
    }

    private static void together() {
        Check.says("Terms 4", "TOGETHER (both are among the debtor and those who sit with him)");
        fits(TWO, "together 0 1;", 2, 101);
        fits(TWO, "together 1 0;", 2, 101);
        fits(THREE, "together 0 1;", 2, 6, 101, 105, 203);
        fits(THREE, "together 0 1;together 0 1;together 1 0;", 2, 6, 101, 105, 203);
        fits(THREE, "together 0 1;together 1 2;", 6, 105, 203);
    }

    private static void apart() {
        Check.says("Terms 4", "or APART (not so), as it says");
        fits(TWO, "apart 0 1;");
        fits(THREE, "apart 0 1;", 4, 104, 201, 202);
        fits(FOUR, "apart 0 1;apart 0 2;apart 0 3;", 104, 108, 112, 202, 208, 210, 302, 304, 306);
        fits(FOUR, "apart 0 1;apart 0 2;apart 0 3;apart 1 2;apart 1 3;", 208, 304);
        fits(FOUR, "apart 0 1;apart 0 2;apart 0 3;apart 1 2;apart 1 3;apart 2 3;");
        fits(THREE, "together 0 1;apart 1 0;");
        fits(THREE, "apart 0 1;apart 0 1;apart 0 1;apart 0 1;apart 0 1;apart 0 1;apart 0 1;together 0 2;", 4, 201);
        fits(THREE, "apart 0 1;apart 0 1;apart 0 1;apart 0 1;apart 0 1;apart 0 1;apart 0 1;together 0 1;");
    }

    private static void theTwoAreThere() {
        Check.says("Terms 4", "such a number FITS, if of each FACT the two are there");
        for (int p = 2; p < 6; p++) {
            fits(TWO, "apart 0 " + p + ";");
            fits(TWO, "apart " + p + " 1;");
            fits(TWO, "together 0 " + p + ";");
            fits(TWO, "together 0 1;apart 0 " + p + ";");
            fits(TWO, "apart 0 " + p + ";together 0 1;");
        }
        fits(TWO, "apart 4 5;");
        fits(THREE, "apart 1 2;together 0 2;", 4, 201);
        fits(THREE, "apart 1 3;together 0 2;");
        fits("", "apart 0 1;");
        for (int k = 0; k < 8; k++) {
            fits(THREE, "apart 0 1;".repeat(k) + "apart 2 3;" + "apart 0 1;".repeat(7 - k));
            fits(THREE, "apart 0 1;".repeat(k) + "apart 3 2;" + "apart 0 1;".repeat(7 - k));
            fits(THREE, "apart 0 1;".repeat(k) + "apart 1 2;" + "apart 0 1;".repeat(7 - k), 4, 201);
        }
    }

    private static void allOfSix() {
        Check.says("Terms 4", "how many; the k-th, rising");
        KeptCompany x = Check.with(SIX, Check.LOG, "");
        Check.due("all", x.fits(0, 0, 0), 186);
        int k = 0;
        for (int debtor = 0; debtor < 6; debtor++) {
            for (int others = 1; others < 64; others++) {
                if ((others >> debtor & 1) == 0) {
                    Check.due("the " + k + "-th", x.fits(0, 0, 10 + k), 100 * debtor + others);
                    k++;
                }
            }
        }
        Check.due("the first", x.fits(0, 0, 10), 2);
        Check.due("the last", x.fits(0, 0, 195), 531);
        Check.due("no more", x.fits(0, 0, 196), -2);
    }

    /** If one number alone FITS, it is the first and the last, and tells all. */
    private static void oneAlone() {
        Check.says("Terms 4", "such a number FITS");
        String town = SIX + "hate 5 0;hate 5 1;";
        String log = "together 5 0;together 1 5;apart 0 2;apart 0 3;apart 0 4;";
        fits(town, log, 503);
        sure(town, log, 5);
        watch(town, log, 1);
        share(town, log, 0, 5, 1, 1);
        share(town, log, 0, 1, 1, 1);
        share(town, log, 0, 2, 0, 1);
        share(town, log, 3, 4, 0, 1);
        company(town, log, 2, 2);
        String least = THREE + "hate 0 1;hate 0 2;";
        fits(least, "together 0 1;together 0 2;", 6);
        sure(least, "together 0 1;together 0 2;", 0);
        company(least, "together 0 1;together 0 2;", 2, 2);
    }

    private static void sure(String town, String log, int due) {
        Check.due("SURE, " + town + log, Check.with(town, Check.LOG, log).fits(0, 0, 1), due);
    }

    private static void sure() {
        Check.says("Terms 4", "SURE: the debtor, if it is one in all that FIT");
        sure(TWO, "", -1);
        sure(THREE + "hate 0 1;hate 0 2;", "together 0 1;together 0 2;", 0);
        sure(FOUR + "hate 0 1;hate 0 2;", "together 0 1;together 0 2;", 0);
        sure(SIX + "hate 5 1;hate 5 2;", "together 5 1;together 5 2;", 5);
        sure(SIX + "hate 5 1;hate 5 2;", "together 5 1;", -1);
        for (int p = 2; p < 6; p++) {
            sure(SIX + "hate " + p + " 0;hate " + p + " 1;", "together 0 " + p + ";together 1 " + p + ";", p);
            sure(SIX + "hate " + p + " 0;hate " + p + " 1;", "together 0 " + p + ";", -1);
        }
        Check.says("Promise 20", "1: SURE (NONE: not one)");
        sure("", "", -1);
        sure("person 0 0;", "", -1);
        sure(TWO, "apart 0 1;", -1);
        sure(THREE, "together 0 1;together 1 2;", -1);
    }

    private static void watch(String town, String log, int due) {
        Check.due("WATCH, " + town + log, Check.with(town, Check.LOG, log).fits(0, 0, 2), due);
    }

    private static void watch() {
        Check.says("Terms 4", "WATCH: the couple (10 times the lesser PERSON, and the other one) such that ... the "
            + "greater number ... is least, of several the least.");
        watch(TWO, "", 1);
        watch(SIX, "", 1);
        watch(SIX + ALL_HATE, "", 1);
        watch(THREE + "hate 0 1;", "", 1);
        // 2, 101 FIT: all three couples part them as little.
        watch(THREE, "together 0 1;apart 0 2;", 1);
        // 2, 6, 101, 105, 203 FIT: 0 and 1 are TOGETHER in all, 0 and 2 in three of five.
        watch(THREE, "together 0 1;", 2);
        // 4, 104, 201, 202 FIT: 0 and 1 in none, 0 and 2 in two of four.
        watch(THREE, "apart 0 1;", 2);
        // 104, 108, 112, 202, 208, 210, 302, 304, 306 FIT: 1 and 2 in five of nine, and 0 with nobody.
        watch(FOUR, "apart 0 1;apart 0 2;apart 0 3;", 12);
        // 208, 304 FIT: 2 and 3 in both; all couples part them as little.
        watch(FOUR, "apart 0 1;apart 0 2;apart 0 3;apart 1 2;apart 1 3;", 1);
        // All with 5 and 4 alone, or 5, 4 and 3: 3 and 4 part them, and before it none does so well.
        watch(SIX, "together 4 5;apart 0 5;apart 1 5;apart 2 5;", 34);
        Check.says("Promise 20", "2: WATCH (NONE: nothing FITS)");
        watch("", "", -1);
        watch("person 0 0;", "", -1);
        watch(TWO, "apart 0 1;", -1);
        watch(TWO, "apart 0 2;", -1);
    }

    private static void fitsAnswers() {
        Check.says("Promise 20", "-2: there is none such (of any), or for another what.");
        KeptCompany x = Check.with(THREE, Check.LOG, "");
        for (int what : new int[] {0, 1, 2, 10}) {
            Check.dueOfEach("no such TOWN, what " + what, Check.NOT_ONE, t -> x.fits(t, 0, what), -2);
            Check.dueOfEach("no such LOG, what " + what, Check.NOT_ONE, l -> x.fits(0, l, what), -2);
        }
        Check.dueOfEach("another what", new int[] {MIN, -11, -10, -2, -1, 3, 4, 5, 6, 7, 8, 9}, what -> x.fits(0, 0, what), -2);
        Check.due("the last", x.fits(0, 0, 18), 203);
        Check.dueOfEach("no such k", new int[] {19, 20, 100, 195, 196, 1000, MAX}, what -> x.fits(0, 0, what), -2);
        KeptCompany none = Check.with(TWO, Check.LOG, "apart 0 1;");
        Check.due("none FITS", none.fits(0, 0, 0), 0);
        Check.due("the first of none", none.fits(0, 0, 10), -2);
    }

    private static void share(String town, String log, int a, int b, int over, int under) {
        KeptCompany x = Check.with(town, Check.LOG, log);
        Check.due("share of " + a + ", " + b + ", " + town + log, x.share(0, 0, a, b, false), over);
        Check.due("share of " + b + ", " + a + ", " + town + log, x.share(0, 0, b, a, false), over);
        Check.due("share of " + a + ", " + b + ", under, " + town + log, x.share(0, 0, a, b, true), under);
        Check.due("share of " + b + ", " + a + ", under, " + town + log, x.share(0, 0, b, a, true), under);
    }

    private static void shares() {
        Check.says("Terms 6", "SHARE of two: all that FIT being alike, how likely these two are TOGETHER, a fraction in least terms");
        share(TWO, "", 0, 1, 1, 1);
        share(THREE, "", 0, 1, 5, 9);
        share(THREE, "together 0 1;", 0, 1, 1, 1);
        share(THREE, "together 0 1;", 0, 2, 3, 5);
        share(THREE, "apart 0 1;", 0, 1, 0, 1);
        share(THREE, "apart 0 1;", 0, 2, 1, 2);
        share(SIX, "", 0, 1, 32, 93);
        share(SIX, "", 5, 4, 32, 93);
        share(SIX + ALL_HATE, "", 0, 5, 1, 15);
    }

    private static void shareAnswers() {
        Check.says("Promise 33", "NONE: nothing FITS, they are not two, or there is none such (of any).");
        share(TWO, "apart 0 1;", 0, 1, -1, -1);
        share(TWO, "apart 0 2;", 0, 1, -1, -1);
        share("person 0 0;", "", 0, 0, -1, -1);
        KeptCompany x = Check.with(FOUR, Check.LOG, "");
        for (boolean under : new boolean[] {false, true}) {
            Check.dueOfEach("not two", new int[] {0, 1, 2, 3}, p -> x.share(0, 0, p, p, under), -1);
            Check.dueOfEach("no such TOWN", Check.NOT_ONE, t -> x.share(t, 0, 0, 1, under), -1);
            Check.dueOfEach("no such LOG", Check.NOT_ONE, l -> x.share(0, l, 0, 1, under), -1);
            Check.dueOfEach("no such first PERSON", Check.NOT_FOUR, p -> x.share(0, 0, p, 1, under), -1);
            Check.dueOfEach("no such second PERSON", Check.NOT_FOUR, p -> x.share(0, 0, 0, p, under), -1);
            Check.dueOfEach("no such PEOPLE", Check.NOT_FOUR, p -> x.share(0, 0, p, p, under), -1);
        }
    }

    private static void company(String town, String log, int fewest, int most) {
        KeptCompany x = Check.with(town, Check.LOG, log);
        Check.due("fewest, " + town + log, x.fewest(0, 0, false), fewest);
        Check.due("most, " + town + log, x.fewest(0, 0, true), most);
    }

    private static void fewest() {
        Check.says("Terms 6", "FEWEST, MOST: with how many the debtor sits, of all that FIT, at least, at most.");
        company(TWO, "", 1, 1);
        company(THREE, "", 1, 2);
        company(SIX, "", 1, 5);
        company(SIX + ALL_HATE, "", 1, 1);
        company(SIX, "together 0 1;together 2 3;together 4 5;", 5, 5);
        company(SIX, "together 0 1;together 1 2;apart 0 5;", 2, 4);
        Check.says("Promise 34", "NONE: nothing FITS, or there is none such (of either).");
        company("", "", -1, -1);
        company("person 0 0;", "", -1, -1);
        company(TWO, "apart 0 1;", -1, -1);
        company(TWO, "together 0 2;", -1, -1);
        KeptCompany x = Check.with(THREE, Check.LOG, "");
        Check.dueOfEach("no such TOWN", Check.NOT_ONE, t -> x.fewest(t, 0, false), -1);
        Check.dueOfEach("no such LOG", Check.NOT_ONE, l -> x.fewest(0, l, false), -1);
        Check.dueOfEach("no such TOWN, most", Check.NOT_ONE, t -> x.fewest(t, 0, true), -1);
        Check.dueOfEach("no such LOG, most", Check.NOT_ONE, l -> x.fewest(0, l, true), -1);
        Check.due("a TOWN alone", Check.with(THREE).fewest(0, 0, false), -1);
        Check.due("a TOWN alone, share", Check.with(THREE).share(0, 0, 0, 1, false), -1);
        Check.due("a TOWN alone, fits", Check.with(THREE).fits(0, 0, 0), -2);
        KeptCompany log = new KeptCompany();
        Check.tell(log, Check.LOG, -1, "");
        Check.due("a LOG alone", log.fewest(0, 0, false), -1);
        Check.due("a LOG alone, share", log.share(0, 0, 0, 1, false), -1);
        Check.due("a LOG alone, fits", log.fits(0, 0, 0), -2);
    }
}
