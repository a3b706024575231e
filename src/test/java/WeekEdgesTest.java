import java.math.BigInteger;

/** Each sentence of the second of the Terms (a WEEK of a TOWN), DRAWN and GROWN that names a boundary case: promises 8, 9, 21, 29, 32. */
public final class WeekEdgesTest {
    private static final int MIN = Integer.MIN_VALUE;
    private static final int MAX = Integer.MAX_VALUE;
    private static final String SIX = "person 0 50;".repeat(6);
    private static final String ALL_OWE_ZERO = SIX + "owes 0 1 1;owes 0 2 1;owes 0 3 1;owes 0 4 1;owes 0 5 1;";

    public static void main(String[] args) {
        begins();
        sitIsOwed();
        sitsWithNobody();
        sitHates();
        sitCounts();
        sitSeveral();
        lends();
        pays();
        forgives();
        silent();
        hours();
        sundays();
        noSuchPerson();
        ends();
        states();
        stateAnswers();
        refusedDeed();
        tillAnswers();
        firstKeeperKept();
        sumsBehind();
        twoWeeks();
        afterAnswers();
        drawnNumbers();
        drawnDeeds();
        drawnOthers();
        drawnFewPeople();
        drawnAnswers();
        grown();
        Check.finish("WeekEdgesTest");
    }

    private static KeptCompany week(String town, String deeds) {
        return Check.with(town, Check.WEEK, deeds);
    }

    /** END of these DEEDS, and answers of the STATE there, told as what, answer, what, answer. */
    private static void end(String town, String deeds, int end, int... answers) {
        KeptCompany x = week(town, deeds);
        Check.due("END of " + deeds, x.till(0, 0), end);
        for (int i = 0; i < answers.length; i += 2) {
            Check.due("state " + answers[i] + " behind " + deeds, x.state(0, 0, end, answers[i]), answers[i + 1]);
        }
    }

    private static void begins() {
        Check.says("Terms 2", "A WEEK of a TOWN begins at hour 0, nobody sitting with anybody, nobody SILENT.");
        KeptCompany x = week(Check.FOUR, "silent 2;sit 1 0;lend 1 3 5;hour;sit 0 1;");
        for (int time = 0; time < 2; time++) {
            Check.dueRow("at the beginning", what -> x.state(0, 0, 0, what), 0, 44, 0, 0, 0, -1);
            Check.dueRow("PURSE", p -> x.state(0, 0, 0, 10 + p), 20, 50, 10, 20, -1);
            Check.dueRow("sits with", p -> x.state(0, 0, 0, 20 + p), 6, 6, 6, 6, -1);
            Check.dueRow("OWES 1", p -> x.state(0, 0, 0, 101 + 10 * p), 5, 0, 0, 2, -1);
            Check.due("END, and then from the beginning again", x.till(0, 0), 5);
            Check.due("SILENT behind it", x.state(0, 0, 5, 3), 4);
        }
        Check.dueRow("the TOWN stays as told", p -> x.town(0, 101 + 10 * p), 5, 0, 0, 2, -1);
        Check.dueRow("PURSES stay as told", p -> x.town(0, 20 + p), 20, 50, 10, 20, -1);
    }

    private static void sitIsOwed() {
        Check.says("Terms 2", "sit: a creditor whom the debtor OWES 1 or more");
        end(SIX, "sit 1 0;", 0);
        end(SIX + "owes 1 0 9;", "sit 1 0;", 0);
        end(SIX + "owes 0 1 1;", "sit 1 0;", 1, 101, 0, 2, 1);
        end(SIX + "owes 0 1 1;", "sit 1 0;hour;sit 1 0;", 2, 101, 0, 2, 1);
        end(SIX + "owes 0 1 2;", "sit 1 0;hour;sit 1 0;hour;sit 1 0;", 4, 101, 0, 2, 2);
        end(SIX, "lend 1 0 1;sit 1 0;hour;sit 1 0;", 3, 101, 0, 2, 1);
        end(SIX + "owes 0 1 1;", "forgive 1 0 1;sit 1 0;", 1, 2, 0);
    }

    private static void sitsWithNobody() {
        Check.says("Terms 2", "who sits with nobody in this hour");
        String two = SIX + "owes 0 1 9;owes 2 1 9;";
        end(two, "sit 1 0;sit 1 0;", 1, 2, 1, 21, 0);
        end(two, "sit 1 0;sit 1 2;", 1, 2, 1, 21, 0);
        end(two, "sit 1 0;hour;sit 1 2;", 3, 2, 2, 21, 2);
        end(two, "sit 1 0;silent 1;talks 0;lend 3 4 1;sit 1 2;", 4, 2, 1, 21, 0);
        end(two + "owes 1 0 1;", "sit 1 0;sit 0 1;", 2, 20, 1, 21, 0);
    }

    private static void sitHates() {
        Check.says("Terms 2", "and HATES none of those who sit with that debtor in this hour");
        String all = ALL_OWE_ZERO + "owes 5 1 1;owes 5 2 1;hate 1 2;";
        end(all, "sit 1 0;sit 2 0;", 1);
        end(all, "sit 2 0;sit 1 0;", 1);
        end(all, "sit 3 0;sit 1 0;sit 4 0;sit 2 0;", 3);
        end(all, "sit 1 0;sit 2 5;", 2);
        end(all, "sit 1 0;hour;sit 2 0;", 3);
        end(all + "hate 0 3;", "sit 3 0;", 1);
        end(all + "owes 1 0 1;hate 0 3;", "sit 0 1;sit 3 0;sit 1 0;", 3);
        end(all + "hate 3 4;", "sit 1 0;sit 3 0;sit 4 0;", 2);
        end(all + "owes 4 0 1;owes 4 5 1;hate 0 5;", "sit 0 4;sit 5 4;", 1);
        end(all + "owes 4 0 1;owes 4 5 1;hate 0 5;", "sit 5 4;sit 0 4;", 1);
    }

    private static void sitCounts() {
        Check.says("Terms 2", "he sits with him; if the debtor is not SILENT, he OWES him 1 less.");
        String one = SIX + "owes 0 1 2;owes 0 2 2;owes 3 1 2;";
        end(one, "sit 1 0;", 1, 101, 1, 102, 2, 131, 2, 1, 5, 21, 0, 20, 6, 4, 2);
        end(one, "silent 0;sit 1 0;", 2, 101, 2, 1, 6, 21, 0, 2, 1, 4, 2);
        end(one, "silent 1;sit 1 0;", 2, 101, 1);
        end(one, "silent 3;sit 1 0;", 2, 101, 1);
        end(one, "silent 0;talks 0;sit 1 0;", 3, 101, 1);
        end(one, "silent 0;sit 1 0;talks 0;sit 2 0;", 4, 101, 2, 102, 1);
        end(one, "silent 0;hour;sit 1 0;", 3, 101, 2);
    }

    private static void sitSeveral() {
        Check.says("Terms 2", "(A debtor may have several with him, and sit with his own debtor, too.)");
        end(ALL_OWE_ZERO + "owes 5 0 1;", "sit 1 0;sit 2 0;sit 3 0;sit 4 0;sit 5 0;sit 0 5;", 6, 4, 63, 2, 6, 1, 0, 20, 5, 25, 0);
        end(SIX + "owes 0 1 1;owes 1 2 1;owes 2 0 1;", "sit 1 0;sit 2 1;sit 0 2;", 3, 20, 2, 21, 0, 22, 1, 4, 7);
    }

    private static void lends() {
        Check.says("Terms 2", "lend: who lends has so much in his PURSE");
        end("person 0 30;person 0 0;", "lend 0 1 30;", 1, 10, 0, 11, 30, 110, 30, 101, 0);
        end("person 0 29;person 0 0;", "lend 0 1 30;", 0, 10, 29);
        end("person 0 0;person 0 0;", "lend 0 1 1;", 0);
        end("person 0 1;person 0 0;", "lend 0 1 1;lend 0 1 1;", 1, 10, 0, 11, 1, 110, 1);
        end("person 0 1;person 0 0;", "lend 0 1 1;lend 1 0 1;", 2, 10, 1, 11, 0, 110, 1, 101, 1);
        Check.says("Terms 2", "the other one has no more than 99 then");
        end("person 0 50;person 0 69;", "lend 0 1 30;", 1, 11, 99, 10, 20, 110, 30);
        end("person 0 50;person 0 70;", "lend 0 1 30;", 0, 11, 70);
        end("person 0 50;person 0 99;", "lend 0 1 1;", 0);
        end("person 0 50;person 0 98;", "lend 0 1 1;lend 0 1 1;", 1, 11, 99);
        Check.says("Terms 2", "and would OWE him no more than 99");
        String rich = "person 0 99;person 0 0;person 0 0;owes 1 0 30;owes 1 2 30;";
        end(rich, "lend 0 1 30;lend 0 1 30;lend 0 1 9;lend 0 1 1;", 3, 110, 99, 112, 30);
        end(rich, "lend 0 1 30;lend 0 1 30;lend 0 1 10;", 2, 110, 90);
        end(rich, "lend 0 1 30;lend 0 1 30;lend 0 1 9;forgive 0 1 1;lend 0 1 1;", 5, 110, 99);
    }

    private static void pays() {
        Check.says("Terms 2", "pay: who pays OWES the other one so much or more, and has it in his PURSE");
        String one = "person 0 9;person 0 0;person 0 0;";
        end(one + "owes 0 1 9;", "pay 0 1 9;", 1, 10, 0, 11, 9, 101, 0);
        end(one + "owes 0 1 9;", "pay 0 1 8;pay 0 1 2;", 1, 10, 1, 11, 8, 101, 1);
        end(one + "owes 0 1 8;", "pay 0 1 9;", 0);
        end(one + "owes 1 0 9;", "pay 0 1 9;", 0);
        end(one + "owes 0 2 9;", "pay 0 1 1;", 0);
        end(one + "owes 0 1 30;", "pay 0 1 10;", 0);
        end(one + "owes 0 1 30;", "pay 0 1 9;pay 0 1 1;", 1, 101, 21);
        Check.says("Terms 2", "and the other one has no more than 99 then: the PURSES change, he OWES so much less.");
        end("person 0 9;person 0 90;owes 0 1 9;", "pay 0 1 9;", 1, 11, 99);
        end("person 0 9;person 0 91;owes 0 1 9;", "pay 0 1 9;", 0, 11, 91);
        end("person 0 9;person 0 99;owes 0 1 9;", "pay 0 1 1;", 0);
    }

    private static void forgives() {
        Check.says("Terms 2", "forgive: the other one OWES him so much or more: that much less.");
        end("person 0 5;person 0 6;owes 1 0 9;", "forgive 0 1 9;", 1, 110, 0, 10, 5, 11, 6);
        end("person 0 5;person 0 6;owes 1 0 9;", "forgive 0 1 8;forgive 0 1 2;", 1, 110, 1);
        end("person 0 5;person 0 6;owes 1 0 9;", "forgive 0 1 10;", 0, 110, 9);
        end("person 0 5;person 0 6;owes 1 0 9;", "forgive 1 0 1;", 0);
        end("person 0 5;person 0 6;", "forgive 0 1 1;", 0);
    }

    private static void silent() {
        Check.says("Terms 2", "silent, talks: a PERSON is SILENT from then on, is not.");
        end(SIX, "silent 0;silent 5;", 2, 3, 33);
        end(SIX, "silent 3;silent 3;", 2, 3, 8);
        end(SIX, "silent 3;silent 3;talks 3;", 3, 3, 0);
        end(SIX, "talks 3;", 1, 3, 0);
        end(SIX, "silent 0;silent 1;silent 2;silent 3;silent 4;silent 5;talks 2;", 7, 3, 59);
        end(SIX, "silent 4;" + "hour;".repeat(10), 11, 3, 16);
    }

    private static void hours() {
        Check.says("Terms 2", "hour: nobody sits with anybody any more; the next hour");
        end(ALL_OWE_ZERO, "sit 1 0;sit 2 0;hour;", 3, 0, 1, 4, 0, 21, 6, 22, 6, 2, 2);
        end("", "hour;".repeat(40), 40, 0, 40, 1, 0, 2, 0, 3, 0, 4, 0);
        end(ALL_OWE_ZERO, "sit 1 0;hour;hour;sit 2 0;", 4, 0, 2, 4, 4, 21, 6, 22, 0);
    }

    private static void sundays() {
        Check.says("Terms 2", "if its number can be parted by 10, it is a Sunday: of all that is OWED and not 0 one more "
            + "is OWED, 99 at most.");
        KeptCompany x = week(SIX + "owes 0 1 1;owes 5 4 30;", "hour;".repeat(40));
        for (int n = 0; n <= 40; n++) {
            Check.due("OWED in hour " + n, x.state(0, 0, n, 101), 1 + n / 10);
            Check.due("OWED in hour " + n, x.state(0, 0, n, 154), 30 + n / 10);
            Check.due("0 stays 0 in hour " + n, x.state(0, 0, n, 110), 0);
            Check.due("all in hour " + n, x.state(0, 0, n, 1), 31 + 2 * (n / 10));
        }
        String rich = "person 0 99;person 0 0;owes 1 0 30;";
        String lent = "lend 0 1 30;lend 0 1 30;";
        end(rich, lent + "lend 0 1 8;" + "hour;".repeat(10), 13, 110, 99);
        end(rich, lent + "lend 0 1 9;" + "hour;".repeat(10), 13, 110, 99);
        end(rich, lent + "lend 0 1 7;" + "hour;".repeat(30), 33, 110, 99);
        end(rich, lent + "lend 0 1 7;" + "hour;".repeat(20), 23, 110, 99, 1, 99);
        end(SIX + "owes 0 1 1;", "sit 1 0;" + "hour;".repeat(10), 11, 101, 0);
        end(SIX + "owes 0 1 1;", "hour;".repeat(10) + "sit 1 0;hour;sit 1 0;hour;sit 1 0;", 14, 101, 0);
    }

    private static void noSuchPerson() {
        Check.says("Terms 2", "A DEED can't be, if there is no such PERSON, or it is not as said.");
        String two = "person 0 50;person 0 50;owes 0 1 9;owes 1 0 9;";
        for (int p = 2; p < 6; p++) {
            for (String word : new String[] {"lend", "pay", "forgive"}) {
                end(two, "hour;" + word + " 0 " + p + " 1;hour;", 1);
                end(two, "hour;" + word + " " + p + " 0 1;hour;", 1);
                end(two, word + " 0 1 1;", 1);
            }
            end(two, "sit 0 " + p + ";", 0);
            end(two, "sit " + p + " 0;", 0);
            end(two, "sit 5 4;", 0);
            end(two, "silent " + p + ";", 0, 3, 0);
            end(two, "talks " + p + ";", 0);
        }
        end(two, "silent 1;talks 1;sit 1 0;", 3);
        end("", "silent 0;", 0);
        end("", "hour;talks 0;", 1);
    }

    private static void ends() {
        Check.says("Terms 2", "END: the first DEED that can't be, else how many there are.");
        end(SIX, "", 0, 0, 0);
        end(SIX, "hour;", 1);
        end(SIX, "sit 0 1;", 0);
        end(SIX, "sit 0 1;hour;hour;", 0, 0, 0);
        end(SIX, "hour;sit 0 1;hour;sit 0 1;", 1, 0, 1);
        end(SIX, "hour;".repeat(39) + "silent 5;", 40);
        end(SIX, "hour;".repeat(39) + "sit 0 1;", 39);
    }

    private static void states() {
        Check.says("Terms 2", "A STATE is behind the first n DEEDS, n up to END.");
        KeptCompany x = week(SIX, "hour;hour;sit 0 1;hour;hour;");
        Check.dueRow("the hour behind n DEEDS", n -> x.state(0, 0, n, 0), 0, 1, 2, -1, -1, -1, -1);
        KeptCompany full = week(SIX, "hour;".repeat(40));
        Check.due("behind 40 DEEDS", full.state(0, 0, 40, 0), 40);
        Check.dueOfEach("no such STATE", new int[] {MIN, -2, -1, 41, 42, MAX}, n -> full.state(0, 0, n, 0), -1);
        KeptCompany none = week(SIX, "");
        Check.due("behind no DEED", none.state(0, 0, 0, 0), 0);
        Check.due("behind one of none", none.state(0, 0, 1, 0), -1);
    }

    private static void stateAnswers() {
        Check.says("Promise 9", "2: how many hours were sat in all (SILENT ones, too) ... 4: PEOPLE who sit with anybody in this hour (bits)");
        KeptCompany x = week(ALL_OWE_ZERO, "sit 1 0;silent 0;sit 5 0;hour;sit 2 0;");
        Check.dueRow("hours sat", n -> x.state(0, 0, n, 2), 0, 1, 1, 2, 2, 3);
        Check.dueRow("who sit", n -> x.state(0, 0, n, 4), 0, 2, 2, 34, 0, 4);
        Check.dueRow("with whom 5 sits", n -> x.state(0, 0, n, 25), 6, 6, 6, 0, 6, 6);
        Check.says("Promise 9", "10 + p, 20 + p: PURSE of a PERSON, with whom he sits (6: nobody)");
        Check.dueRow("PURSE", p -> x.state(0, 0, 3, 10 + p), 50, 50, 50, 50, 50, 50, -1, -1, -1, -1);
        Check.dueRow("with whom", p -> x.state(0, 0, 3, 20 + p), 6, 0, 6, 6, 6, 0, -1, -1, -1, -1);
        Check.says("Promise 9", "100 + 10 a + b: what a OWES b (0: himself).");
        Check.dueRow("himself", p -> x.state(0, 0, 5, 100 + 11 * p), 0, 0, 0, 0, 0, 0, -1, -1, -1, -1);
        Check.says("Promise 9", "NONE: there is no such STATE, or for another what.");
        KeptCompany four = week(Check.FOUR, "sit 1 0;");
        Check.dueOfEach("no such TOWN", Check.NOT_ONE, t -> four.state(t, 0, 0, 0), -1);
        Check.dueOfEach("no such WEEK", Check.NOT_ONE, w -> four.state(0, w, 0, 0), -1);
        Check.dueOfEach("no such n", new int[] {MIN, -2, -1, 2, 3, 40, 41, MAX}, n -> four.state(0, 0, n, 0), -1);
        Check.dueOfEach("another what", new int[] {MIN, -100, -10, -1, MAX}, what -> four.state(0, 0, 1, what), -1);
        for (int what = 0; what < 1000; what++) {
            boolean person = what >= 10 && what < 30 && what % 10 < 4;
            boolean couple = what >= 100 && what < 140 && what % 10 < 4;
            Check.due("state " + what + " is there", four.state(0, 0, 1, what) != -1, what < 5 || person || couple);
        }
        KeptCompany nobody = week("", "hour;");
        Check.dueRow("of nobody", what -> nobody.state(0, 0, 1, what), 1, 0, 0, 0, 0, -1);
        Check.dueOfEach("of nobody", new int[] {10, 20, 100}, what -> nobody.state(0, 0, 1, what), -1);
    }

    /** What can't be changes nothing, and what comes behind it is not done. */
    private static void refusedDeed() {
        Check.says("Terms 2", "END: the first DEED that can't be");
        String[] refused = {"sit 1 2;", "lend 0 1 30;", "pay 0 1 6;", "forgive 0 1 4;", "silent 4;", "talks 5;"};
        for (String deed : refused) {
            KeptCompany x = week(Check.FOUR, "silent 0;sit 1 0;" + deed + "hour;talks 0;lend 1 0 9;forgive 2 0 1;sit 0 1;");
            Check.due("END before " + deed, x.till(0, 0), 2);
            Check.dueRow("STATE before " + deed, what -> x.state(0, 0, 2, what), 0, 44, 1, 1, 2);
            Check.dueRow("PURSE before " + deed, p -> x.state(0, 0, 2, 10 + p), 20, 50, 10, 20);
            Check.dueRow("behind all up to END", what -> x.after(0, 0, what), 1, 1, 0, 1, 0, 0, 0, 0, -2);
            Check.due("no STATE behind " + deed, x.state(0, 0, 3, 0), -1);
        }
    }

    private static void tillAnswers() {
        Check.says("Promise 8", "NONE: there is none such (of either).");
        KeptCompany x = week(Check.FOUR, "hour;");
        Check.dueOfEach("no such TOWN", Check.NOT_ONE, t -> x.till(t, 0), -1);
        Check.dueOfEach("no such WEEK", Check.NOT_ONE, w -> x.till(0, w), -1);
        Check.due("a TOWN alone", Check.with(Check.FOUR).till(0, 0), -1);
        KeptCompany week = new KeptCompany();
        Check.tell(week, 1, -1, "hour;");
        Check.due("a WEEK alone", week.till(0, 0), -1);
        Check.due("a WEEK alone, state", week.state(0, 0, 0, 0), -1);
        Check.due("a WEEK alone, after", week.after(0, 0, 6), -2);
    }

    private static void firstKeeperKept() {
        Check.says("Terms 6", "FIRST: the DEED (from 0 on) by which one first sat with another (none)");
        String all = ALL_OWE_ZERO + "owes 5 0 9;owes 4 0 9;";
        Check.due("DEED 0", week(all, "sit 1 0;sit 2 0;").after(0, 0, 0), 0);
        Check.due("DEED 39", week(all, "hour;".repeat(39) + "sit 1 0;").after(0, 0, 0), 39);
        Check.due("none", week(all, "hour;silent 0;").after(0, 0, 0), -1);
        Check.due("no DEEDS", week(all, "").after(0, 0, 0), -1);
        Check.due("one that can't be", week(all, "sit 0 1;sit 1 0;").after(0, 0, 0), -1);
        Check.due("with who is SILENT", week(all, "silent 0;sit 1 0;").after(0, 0, 0), 1);
        Check.says("Terms 6", "KEEPER, KEPT: the PERSON who sat most often, with whom one sat most often, of several the least (none)");
        KeptCompany none = week(all, "hour;");
        Check.due("no KEEPER", none.after(0, 0, 1), -1);
        Check.due("no KEPT", none.after(0, 0, 2), -1);
        KeptCompany alike = week(all, "sit 5 0;hour;sit 3 0;hour;sit 0 5;hour;sit 0 4;hour;sit 0 4;hour;sit 1 0;sit 0 5;hour;");
        Check.due("KEEPER", alike.after(0, 0, 1), 0);
        Check.due("KEPT, thrice", alike.after(0, 0, 2), 0);
        KeptCompany least = week(all, "sit 5 0;sit 3 0;hour;sit 0 5;hour;sit 0 5;silent 0;");
        Check.due("KEPT, of several the least", least.after(0, 0, 2), 0);
        Check.due("KEEPER, twice", least.after(0, 0, 1), 0);
        Check.due("KEEPER, of several the least", week(all, "sit 5 0;sit 3 0;").after(0, 0, 1), 3);
        Check.due("KEPT, of several the least", week(all, "sit 0 5;hour;sit 0 4;").after(0, 0, 2), 4);
    }

    private static void sumsBehind() {
        Check.says("Terms 6", "VAIN: how many hours were sat with who was SILENT; LENT, FORGIVEN: how much in all; SUNDAYS: how many");
        KeptCompany none = week(SIX, "");
        Check.dueRow("of no DEEDS", what -> none.after(0, 0, 3 + what), 0, 0, 0, 0, 63);
        KeptCompany x = week(ALL_OWE_ZERO, "silent 0;silent 1;sit 1 0;sit 2 0;talks 0;sit 3 0;lend 0 1 30;lend 1 2 7;pay 1 0 5;forgive 0 1 25;forgive 1 2 1;");
        Check.dueRow("VAIN, LENT, FORGIVEN, SUNDAYS", what -> x.after(0, 0, 3 + what), 2, 37, 26, 0);
        for (int n = 0; n <= 40; n++) {
            Check.due("SUNDAYS of " + n, week(SIX, "hour;".repeat(n)).after(0, 0, 6), n / 10);
        }
        Check.says("Terms 6", "FREE: PEOPLE (bits) who OWE nothing.");
        Check.due("nobody is there", week("", "hour;").after(0, 0, 7), 0);
        Check.due("all but one", week(ALL_OWE_ZERO, "").after(0, 0, 7), 62);
        Check.due("all but one, who lost some", week(ALL_OWE_ZERO, "sit 1 0;sit 2 0;sit 3 0;sit 4 0;").after(0, 0, 7), 62);
        Check.due("all", week(ALL_OWE_ZERO, "sit 1 0;sit 2 0;sit 3 0;sit 4 0;sit 5 0;").after(0, 0, 7), 63);
        Check.due("one more", week(SIX, "lend 0 5 1;").after(0, 0, 7), 31);
    }

    /** What one WEEK counts is not counted in the next one that is asked. */
    private static void twoWeeks() {
        Check.says("Terms 6", "Of a WEEK in a TOWN, behind all DEEDS up to END");
        KeptCompany x = week(ALL_OWE_ZERO + "owes 4 0 3;", "silent 0;sit 1 0;sit 2 0;hour;sit 1 0;lend 2 1 9;forgive 1 0 1;" + "hour;".repeat(9));
        Check.due("a second WEEK", Check.tell(x, Check.WEEK, -1, "hour;"), 1);
        for (int time = 0; time < 2; time++) {
            Check.dueRow("WEEK 0", what -> x.after(0, 0, what), 1, 1, 0, 3, 9, 1, 1, 44);
            Check.dueRow("WEEK 1", what -> x.after(0, 1, what), -1, -1, -1, 0, 0, 0, 0, 46);
        }
        Check.tell(x, Check.WEEK, 1, "hour;sit 0 4;");
        Check.dueRow("WEEK 0", what -> x.after(0, 0, what), 1, 1, 0, 3, 9, 1, 1, 44);
        Check.dueRow("WEEK 1 in its place", what -> x.after(0, 1, what), 1, 0, 4, 0, 0, 0, 0, 46);
    }

    private static void afterAnswers() {
        KeptCompany x = week(Check.FOUR, "hour;");
        Check.says("Promise 32", "What 0: FIRST, 1: KEEPER, 2: KEPT (NONE of all: none)");
        Check.dueRow("nobody sat", what -> x.after(0, 0, what), -1, -1, -1);
        Check.dueRow("nobody is there", what -> week("", "hour;").after(0, 0, what), -1, -1, -1, 0, 0, 0, 0, 0);
        Check.says("Promise 32", "-2: there is none such (of either), or for another what.");
        for (int what = 0; what < 8; what++) {
            int one = what;
            Check.dueOfEach("no such TOWN", Check.NOT_ONE, t -> x.after(t, 0, one), -2);
            Check.dueOfEach("no such WEEK", Check.NOT_ONE, w -> x.after(0, w, one), -2);
        }
        Check.dueOfEach("another what", new int[] {MIN, -2, -1, 8, 9, 10, 100, MAX}, what -> x.after(0, 0, what), -2);
    }

    /** The first number below 10 that a SEED draws tells whether the first DEED is an hour. */
    private static void drawnNumbers() {
        Check.says("Terms 4", "x becomes x * 1103515245 + 12345 (of 32 bits), it is x shifted right by 16 without sign, remainder by n");
        KeptCompany x = Check.with("person 0 0;");
        int[] seeds = {MIN, MIN + 1, -65536, -1000003, -3, -2, -1, 0, 1, 2, 3, 65535, 65536, 1 << 30, MAX - 1, MAX};
        for (int seed : seeds) {
            BigInteger wide = BigInteger.valueOf(seed);
            int hours = 0;
            for (int n = 1; n <= 60; n++) {
                wide = wide.multiply(BigInteger.valueOf(1103515245)).add(BigInteger.valueOf(12345)).mod(BigInteger.ONE.shiftLeft(32));
                hours += wide.shiftRight(16).intValueExact() % 10 >= 8 ? 1 : 0;
                Check.due("hours of SEED " + seed + ", " + n + " times", x.drawn(0, seed, n, 0), hours);
            }
        }
    }

    /** Worked out apart from the program, with numbers of any length cut to 32 bits. */
    private static void drawnDeeds() {
        Check.says("Terms 4", "0, 1, 2: sit (the first one is the creditor), 3: lend, 4: pay, 5: forgive, 6: silent, 7: "
            + "talks; 8, 9: hour; each, if it may.");
        KeptCompany x = Check.with(Check.FOUR);
        drawn(x, 0, 1, 0, 0, 1, 43, 2, 1, 4, 1, 20, 1, 110, 2, 101, 5);
        drawn(x, 1, 1, 0, 1, 1, 44);
        drawn(x, 2, 1, 3, 2, 1, 44);
        drawn(x, 3, 1, 0, 0, 1, 44, 3, 0, 4, 0);
        drawn(x, 4, 1, 0, 0, 1, 44, 3, 0);
        drawn(x, 5, 1, 1, 41, 101, 2, 10, 20, 11, 50);
        drawn(x, 6, 1, 1, 42, 131, 0, 11, 52, 13, 18);
        drawn(x, 7, 1, 1, 44, 2, 0, 22, 6);
        drawn(x, 21, 1, 1, 44, 10, 20, 12, 10);
        drawn(x, 24, 1, 1, 45, 112, 1, 11, 51, 12, 9);
        drawn(x, -1, 6, 0, 0, 1, 42, 2, 1, 3, 0, 10, 19, 12, 11, 22, 0, 102, 2);
        drawn(x, 0, 60, 0, 16, 1, 39, 2, 7, 3, 2, 4, 0, 10, 9, 11, 54, 12, 14, 13, 23, 101, 4, 110, 4, 123, 27, 130, 4);
        drawn(x, -1, 60, 0, 8, 1, 33, 2, 8, 3, 6, 4, 2, 10, 15, 11, 53, 12, 8, 13, 24, 21, 0, 102, 2, 123, 24, 132, 3);
        drawn(x, MAX, 60, 0, 13, 1, 45, 2, 6, 3, 0, 4, 2, 21, 3, 10, 13, 101, 4, 130, 3);
        drawn(x, MIN, 60, 0, 13, 1, 40, 2, 3, 3, 13, 4, 8, 23, 1, 10, 7, 113, 2, 120, 2, 132, 2);
        drawn(Check.with("person 0 9;person 0 9;owes 0 1 3;owes 1 0 2;"), 5, 12, 0, 4, 1, 4, 2, 1, 10, 6, 11, 12, 101, 0, 110, 4);
    }

    private static void drawnOthers() {
        Check.says("Terms 4", "another one (a number below PEOPLE less 1, and 1, and the first one's, remainder by PEOPLE)");
        KeptCompany x = Check.with(Check.FOUR);
        // SEED 0 draws 0 (sit), 0, 0: the next one; SEED 5 draws 5 (forgive), 1, 2, 2: round to 0; SEED 6 draws 4 (pay), 3, 1, 1: round to 1.
        drawn(x, 0, 1, 20, 1, 110, 2);
        drawn(x, 5, 1, 101, 2, 131, 2);
        drawn(x, 6, 1, 131, 0, 13, 18, 11, 52);
        // Of two PEOPLE a number below 1 is drawn for the other one, too, and it is always the other one.
        KeptCompany two = Check.with("person 0 9;person 0 9;owes 0 1 3;owes 1 0 2;");
        drawn(two, 5, 1, 101, 0, 110, 2);
        drawn(two, 5, 2, 101, 0, 110, 1, 20, 1, 21, 6);
    }

    private static void drawn(KeptCompany x, int seed, int n, int... answers) {
        for (int i = 0; i < answers.length; i += 2) {
            Check.due("drawn by " + seed + ", " + n + " times, " + answers[i], x.drawn(0, seed, n, answers[i]), answers[i + 1]);
        }
    }

    private static void drawnFewPeople() {
        Check.says("Terms 4", "(With fewer than two PEOPLE 0 to 7 draw no more, nothing is done.)");
        // The first numbers below 10 are, if no others are drawn between, of SEED 0 these: 0, 6, 6, 5, 8, 5, 5, 9; of SEED 1: 8, 6, 3, 3, 9.
        for (String town : new String[] {"", "person 3 7;"}) {
            KeptCompany x = Check.with(town);
            Check.dueRow("hours of SEED 1", n -> x.drawn(0, 1, n, 0), 0, 1, 1, 1, 1, 2);
            Check.dueRow("hours of SEED 0", n -> x.drawn(0, 0, n, 0), 0, 0, 0, 0, 0, 1, 1, 1, 2);
            for (int n = 0; n <= 60; n++) {
                Check.due("OWED", x.drawn(0, 0, n, 1), 0);
                Check.due("hours sat", x.drawn(0, 0, n, 2), 0);
                Check.due("SILENT", x.drawn(0, 0, n, 3), 0);
                Check.due("who sits", x.drawn(0, 0, n, 4), 0);
                Check.due("PURSE", x.drawn(0, 0, n, 10), town.isEmpty() ? -1 : 7);
            }
        }
    }

    private static void drawnAnswers() {
        Check.says("Terms 4", "n times, 0 to 60");
        KeptCompany x = Check.with(Check.FOUR);
        Check.dueRow("of no times", what -> x.drawn(0, 99, 0, what), 0, 44, 0, 0, 0, -1);
        Check.due("60 times", x.drawn(0, 0, 60, 0), 16);
        Check.says("Promise 21", "NONE: there is none such, another n, or for another what.");
        Check.dueOfEach("another n", new int[] {MIN, -2, -1, 61, 62, MAX}, n -> x.drawn(0, 0, n, 0), -1);
        Check.dueOfEach("no such TOWN", Check.NOT_ONE, t -> x.drawn(t, 0, 1, 0), -1);
        Check.dueOfEach("another what", new int[] {MIN, -1, 5, 9, 14, 19, 24, 29, 30, 99, 104, 140, 200, MAX},
            what -> x.drawn(0, 0, 1, what), -1);
        Check.dueRow("himself", p -> x.drawn(0, 0, 60, 100 + 11 * p), 0, 0, 0, 0, -1);
        Check.due("the TOWN stays as told", x.town(0, 101), 5);
    }

    private static void grown() {
        KeptCompany x = new KeptCompany();
        Check.says("Terms 6", "k less in each hour (0 at least), then, if the number of the hour, 1 the first, can be "
            + "parted by 10, and it is not 0, 1 more, 99 at most.");
        Check.dueRow("5, 0 less", n -> x.grown(5, 0, n), 5, 5, 5, 5, 5, 5, 5, 5, 5, 5, 6, 6);
        Check.dueRow("13, 1 less", n -> x.grown(13, 1, n), 13, 12, 11, 10, 9, 8, 7, 6, 5, 4, 4, 3, 2, 1, 0, 0);
        Check.dueRow("10, 1 less: 0 on Sunday stays 0", n -> x.grown(10, 1, n), 10, 9, 8, 7, 6, 5, 4, 3, 2, 1, 0, 0);
        Check.dueRow("8, 3 less", n -> x.grown(8, 3, n), 8, 5, 2, 0, 0);
        Check.dueRow("0, 9 less", n -> x.grown(0, 9, n), 0, 0, 0, 0, 0, 0, 0, 0, 0, 0, 0);
        Check.due("98 and a Sunday", x.grown(98, 0, 10), 99);
        Check.due("99 and a Sunday", x.grown(99, 0, 10), 99);
        Check.due("90 and nine Sundays", x.grown(90, 0, 99), 99);
        Check.due("89 and nine Sundays", x.grown(89, 0, 99), 98);
        Check.says("Terms 6", "GROWN of v, 0 .. 99, k, 0 .. 9, n hours, 0 .. 99");
        Check.due("v 0", x.grown(0, 0, 99), 0);
        Check.due("v 99", x.grown(99, 9, 1), 90);
        Check.due("n 0", x.grown(99, 9, 0), 99);
        Check.due("n 99", x.grown(1, 0, 99), 10);
        Check.says("Promise 29", "NONE: other numbers.");
        Check.dueOfEach("v", new int[] {MIN, -2, -1, 100, 101, MAX}, v -> x.grown(v, 0, 0), -1);
        Check.dueOfEach("v, with hours behind which it would be 0", new int[] {MIN, -2, -1}, v -> x.grown(v, 9, 12), -1);
        Check.dueOfEach("k", new int[] {MIN, -2, -1, 10, 11, MAX}, k -> x.grown(5, k, 0), -1);
        Check.dueOfEach("n", new int[] {MIN, -2, -1, 100, 101, MAX}, n -> x.grown(5, 0, n), -1);
    }
}
