/** Each sentence of the third of the Terms (of a TOWN as told) that names a boundary case: promises 10 to 18. */
public final class DebtEdgesTest {
    private static final int MIN = Integer.MIN_VALUE;
    private static final int MAX = Integer.MAX_VALUE;
    private static final String SIX = "person 0 0;".repeat(6);
    private static final String ALL_HATE = "hate 0 1;hate 0 2;hate 0 3;hate 0 4;hate 0 5;hate 1 2;hate 1 3;hate 1 4;hate 1 5;"
        + "hate 2 3;hate 2 4;hate 2 5;hate 3 4;hate 3 5;hate 4 5;";

    public static void main(String[] args) {
        courts();
        courtAnswers();
        rotas();
        nets();
        settled();
        ruins();
        ruinAnswers();
        borrowing();
        borrowAnswers();
        lenders();
        lendersAnswers();
        choices();
        choiceAnswers();
        talk();
        talkAnswers();
        Check.finish("DebtEdgesTest");
    }

    private static void court(String more, int person, int sum, int who) {
        KeptCompany x = Check.with(SIX + more);
        Check.due("court of " + person + ", " + more, x.court(0, person, false), sum);
        Check.due("court of " + person + ", who, " + more, x.court(0, person, true), who);
    }

    private static void courts() {
        Check.says("Terms 3", "COURT of a PERSON: the most he OWES, together, to PEOPLE of whom each two HATE each other: how much; "
            + "who (bits), of several the least.");
        court("", 0, 0, 0);
        court(ALL_HATE, 5, 0, 0);
        court("owes 0 5 1;", 0, 1, 32);
        court("owes 5 0 1;", 5, 1, 1);
        court("owes 0 5 1;", 5, 0, 0);
        court("owes 0 5 7;hate 5 1;hate 5 0;", 0, 7, 32);
        court("owes 0 1 9;owes 0 2 9;", 0, 9, 2);
        court("owes 0 1 9;owes 0 2 9;hate 2 1;", 0, 18, 6);
        court("owes 0 1 5;owes 0 2 1;owes 0 3 5;hate 1 2;hate 2 3;", 0, 6, 6);
        court("owes 0 1 5;owes 0 2 1;owes 0 3 6;hate 1 2;hate 2 3;", 0, 7, 12);
        court("owes 0 1 5;owes 0 2 1;owes 0 4 6;hate 1 2;", 0, 6, 6);
        court("owes 0 1 5;owes 0 2 1;owes 0 4 7;hate 1 2;", 0, 7, 16);
        court("owes 0 1 6;owes 0 2 3;owes 0 3 3;hate 2 3;", 0, 6, 2);
        court("owes 0 3 3;owes 0 4 3;owes 0 5 6;hate 3 4;", 0, 6, 24);
        court("owes 5 0 30;owes 5 1 30;owes 5 2 30;owes 5 3 30;owes 5 4 30;" + ALL_HATE, 5, 150, 31);
        court("owes 0 1 30;owes 0 2 30;owes 0 3 30;owes 0 4 30;owes 0 5 30;" + ALL_HATE, 0, 150, 62);
    }

    private static void courtAnswers() {
        Check.says("Promise 10", "NONE: there is none such (of either).");
        KeptCompany x = Check.with(Check.FOUR);
        Check.dueOfEach("no such TOWN", Check.NOT_ONE, t -> x.court(t, 0, false), -1);
        Check.dueOfEach("no such TOWN, who", Check.NOT_ONE, t -> x.court(t, 0, true), -1);
        Check.dueOfEach("no such PERSON", Check.NOT_FOUR, p -> x.court(0, p, false), -1);
        Check.dueOfEach("no such PERSON, who", Check.NOT_FOUR, p -> x.court(0, p, true), -1);
        Check.due("no PEOPLE", Check.with("").court(0, 0, false), -1);
    }

    private static void rota(String town, int sum, int who) {
        KeptCompany x = Check.with(town);
        Check.due("rota of " + town, x.rota(0, false), sum);
        Check.due("rota, to whom, of " + town, x.rota(0, true), who);
    }

    private static void rotas() {
        Check.says("Terms 3", "ROTA: the most that is OWED to any one PERSON, together: how much; to whom, of several the least.");
        rota(SIX, 0, 0);
        rota("person 0 0;", 0, 0);
        rota(SIX + "owes 0 5 1;", 1, 5);
        rota(SIX + "owes 0 5 30;owes 1 5 30;owes 2 5 30;owes 3 5 30;owes 4 5 30;", 150, 5);
        rota(SIX + "owes 0 5 9;owes 1 4 4;owes 2 4 5;", 9, 4);
        rota(SIX + "owes 0 5 9;owes 1 4 4;owes 2 4 4;", 9, 5);
        rota(SIX + "owes 0 1 30;owes 0 2 30;owes 0 3 30;", 30, 1);
        Check.says("Promise 11", "to whom (NONE: no PEOPLE). -2: there is none such.");
        Check.due("no PEOPLE, to whom", Check.with("").rota(0, true), -1);
        Check.due("no PEOPLE, how much", Check.with("").rota(0, false), 0);
        KeptCompany x = Check.with(Check.FOUR);
        Check.dueOfEach("no such TOWN", Check.NOT_ONE, t -> x.rota(t, false), -2);
        Check.dueOfEach("no such TOWN, to whom", Check.NOT_ONE, t -> x.rota(t, true), -2);
    }

    private static void nets() {
        Check.says("Terms 3", "NET of a PERSON: what all OWE him less what he OWES all.");
        KeptCompany x = Check.with(SIX + "owes 0 5 30;owes 1 5 30;owes 2 5 30;owes 3 5 30;owes 4 5 30;");
        Check.dueRow("net", p -> x.net(0, p), -30, -30, -30, -30, -30, 150, -999);
        KeptCompany debtor = Check.with(SIX + "owes 5 0 30;owes 5 1 30;owes 5 2 30;owes 5 3 30;owes 5 4 30;");
        Check.dueRow("net", p -> debtor.net(0, p), 30, 30, 30, 30, 30, -150, -999);
        KeptCompany even = Check.with(SIX + "owes 0 1 9;owes 1 0 9;");
        Check.dueRow("net", p -> even.net(0, p), 0, 0, 0);
        Check.says("Promise 12", "-999: there is none such (of either).");
        Check.dueOfEach("no such TOWN", Check.NOT_ONE, t -> x.net(t, 0), -999);
        Check.dueOfEach("no such PERSON", Check.NOT_FOUR, p -> Check.with(Check.FOUR).net(0, p), -999);
        Check.due("no PEOPLE", Check.with("").net(0, 0), -999);
    }

    private static void settle(String more, int due) {
        Check.due("settled, " + more, Check.with(SIX + more).settled(0), due);
    }

    private static void settled() {
        Check.says("Terms 3", "SETTLED: the fewest payments, each of one PERSON to another one, of any sum");
        Check.due("no PEOPLE", Check.with("").settled(0), 0);
        Check.due("one alone", Check.with("person 9 9;").settled(0), 0);
        settle("", 0);
        settle("owes 0 1 30;owes 1 0 30;", 0);
        settle("owes 0 1 9;owes 1 2 9;owes 2 3 9;owes 3 4 9;owes 4 5 9;owes 5 0 9;", 0);
        settle("owes 0 1 9;", 1);
        settle("owes 0 1 9;owes 1 2 9;owes 2 3 9;owes 3 4 9;owes 4 5 9;", 1);
        settle("owes 0 1 9;owes 1 2 8;", 2);
        settle("owes 1 2 5;owes 3 0 5;owes 3 2 2;", 2);
        settle("owes 2 0 1;owes 2 1 2;owes 5 3 4;owes 5 4 5;", 4);
        settle("owes 0 3 5;owes 1 4 5;owes 2 5 5;", 3);
        settle("owes 0 1 1;owes 0 2 2;owes 0 3 4;owes 0 4 8;owes 0 5 16;", 5);
        settle("owes 1 0 30;owes 2 0 30;owes 3 0 30;owes 4 0 30;owes 5 0 30;", 5);
        Check.says("Promise 13", "NONE: there is none such.");
        KeptCompany x = Check.with(Check.FOUR);
        Check.dueOfEach("no such TOWN", Check.NOT_ONE, x::settled, -1);
    }

    private static void ruin(String town, long... due) {
        KeptCompany x = Check.with(town);
        Check.dueRow("ruin, " + town, p -> x.ruin(0, p), due);
    }

    private static void ruins() {
        Check.says("Terms 3", "whoever OWES more than his PURSE and what all others OWE him who are not RUINED is RUINED, too");
        ruin("person 0 9;person 0 5;person 0 0;owes 0 1 9;owes 1 2 5;", 1, 2, 4, -1);
        ruin("person 0 9;person 0 4;person 0 0;owes 0 1 9;owes 1 2 5;", 3, 2, 4, -1);
        ruin("person 0 9;person 0 4;person 0 0;person 0 1;owes 0 1 9;owes 1 2 5;owes 3 1 1;", 1, 2, 4, 8);
        ruin("person 0 9;person 0 4;person 0 0;person 0 0;owes 0 1 9;owes 1 2 5;owes 3 1 1;", 11, 10, 12, 8);
        Check.says("Terms 3", "RUIN of a PERSON: ... and so on: who (bits; himself, too).");
        ruin(SIX, 1, 2, 4, 8, 16, 32, -1);
        ruin("person 9 99;", 1);
        String up = "owes 0 1 9;owes 1 2 9;owes 2 3 9;owes 3 4 9;owes 4 5 9;";
        ruin("person 0 9;" + "person 0 0;".repeat(5) + up, 31, 30, 28, 24, 16, 32);
        String down = "owes 5 4 9;owes 4 3 9;owes 3 2 9;owes 2 1 9;owes 1 0 9;";
        ruin("person 0 0;".repeat(5) + "person 0 9;" + down, 1, 2, 6, 14, 30, 62);
        ruin(SIX + up + "owes 5 0 9;", 63, 63, 63, 63, 63, 63);
        ruin(SIX + "owes 3 4 9;owes 4 5 9;", 25, 26, 28, 24, 24, 56);
    }

    private static void ruinAnswers() {
        Check.says("Promise 14", "NONE: there is none such (of either).");
        KeptCompany x = Check.with(Check.FOUR);
        Check.dueOfEach("no such TOWN", Check.NOT_ONE, t -> x.ruin(t, 0), -1);
        Check.dueOfEach("no such PERSON", Check.NOT_FOUR, p -> x.ruin(0, p), -1);
        Check.due("no PEOPLE", Check.with("").ruin(0, 0), -1);
    }

    private static void borrow(KeptCompany x, int person, int n, int tedious, long... from) {
        Check.due("borrow(" + person + ", " + n + ")", x.borrow(0, person, n, -1), tedious);
        Check.dueRow("borrow(" + person + ", " + n + ") from", p -> x.borrow(0, person, n, p), from);
    }

    private static void borrowing() {
        Check.says("Terms 3", "BORROW of a PERSON ... of each no more than his PURSE: an hour with one is as tedious as 10 less his WIT");
        KeptCompany x = Check.with("person 9 99;person 0 40;person 9 30;person 0 20;person 9 0;");
        borrow(x, 0, 1, 1, 0, 0, 1, 0, 0, -1);
        borrow(x, 0, 30, 30, 0, 0, 30, 0, 0, -1);
        borrow(x, 0, 31, 40, 0, 1, 30, 0, 0, -1);
        borrow(x, 0, 90, 630, 0, 40, 30, 20, 0, -1);
        borrow(x, 0, 91, -1, -1, -1, -1, -1, -1, -1);
        borrow(x, 1, 99, 99, 99, 0, 0, 0, 0, -1);
        Check.says("Terms 3", "how much of each, those of more WIT first, of several the lesser first.");
        borrow(x, 3, 99, 99, 99, 0, 0, 0, 0);
        borrow(x, 4, 99, 99, 99, 0, 0, 0, 0);
        borrow(x, 2, 99, 99, 99, 0, 0, 0, 0);
        KeptCompany alike = Check.with("person 5 2;".repeat(6));
        borrow(alike, 0, 3, 15, 0, 2, 1, 0, 0, 0);
        borrow(alike, 5, 3, 15, 2, 1, 0, 0, 0, 0);
        borrow(alike, 2, 10, 50, 2, 2, 0, 2, 2, 2);
        borrow(alike, 2, 11, -1, -1, -1, -1, -1, -1, -1);
        borrow(Check.with("person 0 0;person 3 1;person 4 1;"), 0, 1, 6, 0, 0, 1);
        borrow(Check.with("person 9 99;person 0 99;"), 0, 99, 990, 0, 99);
        Check.says("Promise 15", "how much from a PERSON (0 from himself). NONE: all others have not so much");
        borrow(Check.with("person 9 99;"), 0, 1, -1, -1);
        borrow(Check.with("person 9 99;person 9 0;"), 0, 1, -1, -1, -1);
        borrow(Check.with("person 9 0;person 9 1;"), 0, 1, 1, 0, 1);
    }

    private static void borrowAnswers() {
        Check.says("Promise 15", "NONE: ... another n, or there is none such (of any).");
        KeptCompany x = Check.with("person 9 99;person 9 99;person 9 99;person 9 99;");
        Check.dueOfEach("another n", new int[] {MIN, -2, -1, 0, 100, 101, 198, MAX}, n -> x.borrow(0, 0, n, -1), -1);
        Check.dueOfEach("another n, from himself", new int[] {MIN, -2, -1, 0, 100, 101, 198, MAX}, n -> x.borrow(0, 0, n, 0), -1);
        Check.dueOfEach("another n, from 1", new int[] {MIN, -2, -1, 0, 100, 101, 198, MAX}, n -> x.borrow(0, 0, n, 1), -1);
        Check.due("n 1", x.borrow(0, 0, 1, 1), 1);
        Check.due("n 99", x.borrow(0, 0, 99, 1), 99);
        Check.dueOfEach("no such TOWN", Check.NOT_ONE, t -> x.borrow(t, 0, 1, -1), -1);
        Check.dueOfEach("no such PERSON", Check.NOT_FOUR, p -> x.borrow(0, p, 1, -1), -1);
        Check.dueOfEach("no such PERSON, from 0", Check.NOT_FOUR, p -> x.borrow(0, p, 1, 0), -1);
        Check.dueOfEach("from no such PERSON", new int[] {MIN, -2, 4, 5, 6, MAX}, from -> x.borrow(0, 0, 1, from), -1);
    }

    private static void lend(String town, int worth, long... row) {
        KeptCompany x = Check.with(town);
        Check.due("lenders, " + town, x.lenders(0, -1), worth);
        Check.dueRow("lenders, " + town, k -> x.lenders(0, k), row);
        Check.due("lenders, not so many, " + town, x.lenders(0, row.length), -1);
    }

    private static void lenders() {
        Check.says("Terms 3", "LENDERS: ... unlike, nobody lends twice, nobody borrows twice (one may do both)");
        lend("", 0);
        lend("person 9 99;", 0, 6);
        lend("person 1 0;person 9 1;person 9 2;person 9 3;person 9 4;person 9 5;", 37, 5, 0, 1, 2, 3, 4);
        lend("person 1 5;person 9 4;person 9 3;", 18, 1, 2, 0);
        Check.says("Terms 3", "each couple is worth the WIT of who borrows, if the PURSE of who lends is the greater one, else nothing");
        lend("person 9 7;person 9 7;", 0, 1, 0);
        lend("person 9 8;person 9 7;", 9, 1, 0);
        lend("person 9 7;person 9 8;", 9, 1, 0);
        lend("person 0 8;person 0 7;", 0, 1, 0);
        lend("person 9 99;person 3 0;person 4 0;", 4, 2, 0, 1);
        Check.says("Terms 3", "to whom each lends, the first row by numbers (6: to nobody).");
        lend("person 5 9;person 5 0;person 5 0;person 5 0;", 5, 1, 0, 3, 2);
        lend("person 1 9;person 2 9;person 3 9;", 0, 1, 0, 6);
        lend("person 1 1;person 1 1;person 1 1;person 1 1;person 1 1;", 0, 1, 0, 3, 2, 6);
        lend("person 1 1;".repeat(6), 0, 1, 0, 3, 2, 5, 4);
        lend("person 0 2;person 1 0;person 0 0;person 1 1;", 2, 3, 0, 6, 1);
        lend("person 1 0;person 0 2;person 0 0;person 1 1;", 2, 1, 3, 6, 0);
        lend("person 3 0;person 7 0;person 7 3;person 2 0;person 7 2;", 14, 2, 0, 4, 6, 1);
    }

    private static void lendersAnswers() {
        Check.says("Promise 16", "NONE: there is none such (of either).");
        KeptCompany x = Check.with(Check.FOUR);
        Check.dueOfEach("no such TOWN", Check.NOT_ONE, t -> x.lenders(t, -1), -1);
        Check.dueOfEach("no such TOWN, to whom", Check.NOT_ONE, t -> x.lenders(t, 0), -1);
        Check.dueOfEach("no such PERSON", new int[] {MIN, -3, -2, 4, 5, 6, MAX}, k -> x.lenders(0, k), -1);
    }

    private static void choose(String town, long... both) {
        KeptCompany x = Check.with(town);
        for (int n = 0; 2 * n < both.length; n++) {
            Check.due("choice of " + n + ", " + town, x.choice(0, n, false), both[2 * n]);
            Check.due("choice of " + n + ", whom, " + town, x.choice(0, n, true), both[2 * n + 1]);
        }
    }

    private static void choices() {
        Check.says("Terms 3", "CHOICE of n, 0 .. 5: two by turns, n times in all ... (as long as there is such a PERSON)");
        choose("", 0, -1, 0, -1, 0, -1, 0, -1, 0, -1, 0, -1);
        choose("person 7 0;", 0, -1, 7, 0, 7, 0, 7, 0, 7, 0, 7, 0);
        choose("person 1 0;person 7 0;", 0, -1, 7, 1, 6, 1, 6, 1, 6, 1, 6, 1);
        choose("person 0 0;".repeat(6), 0, -1, 0, 0, 0, 0, 0, 0, 0, 0, 0, 0);
        choose("person 1 0;person 2 0;person 4 0;person 8 0;person 9 0;person 3 0;", 0, -1, 9, 4, 1, 4, 5, 4, 2, 4, 4, 4);
        Check.says("Terms 3", "and have his WIT, if the one who chooses has chosen none that HATES him: else that one loses it");
        choose("person 9 0;".repeat(6) + ALL_HATE, 0, -1, 9, 0, 0, 0, -9, 0, 0, 0, -9, 0);
        choose("person 9 0;person 9 0;hate 0 1;", 0, -1, 9, 0, 0, 0, 0, 0);
        choose("person 9 0;person 8 0;person 0 0;hate 0 1;", 0, -1, 9, 0, 1, 0, 1, 0);
        Check.says("Terms 3", "whom the first takes first, the least that is best (none).");
        choose("person 3 0;person 4 0;person 4 0;", 0, -1, 4, 1, 0, 1, 3, 0);
        choose("person 4 0;person 4 0;person 4 0;", 0, -1, 4, 0, 0, 0, 4, 0);
    }

    private static void choiceAnswers() {
        Check.says("Promise 17", "CHOICE of n: how much, or (first) whom (NONE: none).");
        Check.due("no choice", Check.with(Check.FOUR).choice(0, 0, true), -1);
        Check.due("nobody to choose", Check.with("").choice(0, 5, true), -1);
        Check.due("no choice, how much", Check.with(Check.FOUR).choice(0, 0, false), 0);
        Check.due("one of WIT 0 is chosen", Check.with("person 0 0;").choice(0, 1, true), 0);
        Check.says("Promise 17", "-999: another n, or there is none such.");
        KeptCompany x = Check.with(Check.FOUR);
        Check.dueOfEach("another n", new int[] {MIN, -2, -1, 6, 7, MAX}, n -> x.choice(0, n, false), -999);
        Check.dueOfEach("another n, whom", new int[] {MIN, -2, -1, 6, 7, MAX}, n -> x.choice(0, n, true), -999);
        Check.dueOfEach("no such TOWN", Check.NOT_ONE, t -> x.choice(t, 1, false), -999);
        Check.dueOfEach("no such TOWN, whom", Check.NOT_ONE, t -> x.choice(t, 1, true), -999);
    }

    private static void talks(int owes, int p, int n, long over, long under) {
        String more = owes > 15 ? "owes 0 1 15;owes 0 2 " + (owes - 15) + ";" : "owes 0 1 " + owes + ";";
        KeptCompany x = Check.with(SIX + more);
        String call = "talk of who OWES " + owes + ", " + p + ", " + n;
        Check.due(call, x.talk(0, 0, p, n, false), over);
        Check.due(call + ", under", x.talk(0, 0, p, n, true), under);
    }

    private static void talk() {
        Check.says("Terms 3", "TALK of a PERSON, p, 0 .. 10, n hours, 0 .. 12");
        talks(0, 0, 0, 1, 1);
        talks(0, 10, 12, 1, 1);
        talks(1, 0, 12, 0, 1);
        talks(1, 10, 0, 0, 1);
        talks(1, 10, 1, 1, 1);
        talks(12, 10, 12, 1, 1);
        talks(13, 10, 12, 0, 1);
        talks(12, 10, 11, 0, 1);
        talks(12, 1, 12, 1, 1000000000000L);
        talks(12, 9, 12, 282429536481L, 1000000000000L);
        talks(30, 10, 12, 0, 1);
        Check.says("Terms 3", "all he OWES, each hour he talks by p of ten, by itself, and then OWES 1 less (0 at least)");
        talks(1, 5, 1, 1, 2);
        talks(1, 5, 2, 3, 4);
        talks(1, 5, 12, 4095, 4096);
        talks(2, 5, 2, 1, 4);
        KeptCompany both = Check.with(SIX + "owes 0 1 1;owes 0 5 1;owes 1 0 9;");
        Check.due("of two, together", both.talk(0, 0, 5, 2, true), 4);
        Check.due("of two, together", both.talk(0, 0, 5, 1, false), 0);
        Check.due("what he is OWED is nothing to it", both.talk(0, 5, 0, 0, false), 1);
        Check.says("Terms 3", "how likely he OWES nothing behind them, a fraction in least terms.");
        talks(1, 2, 1, 1, 5);
        talks(1, 4, 1, 2, 5);
        talks(1, 3, 1, 3, 10);
        talks(1, 1, 2, 19, 100);
    }

    private static void talkAnswers() {
        Check.says("Promise 18", "NONE: other numbers, or there is none such (of either).");
        KeptCompany x = Check.with(Check.FOUR);
        for (boolean under : new boolean[] {false, true}) {
            Check.dueOfEach("p", new int[] {MIN, -2, -1, 11, 12, MAX}, p -> x.talk(0, 0, p, 3, under), -1);
            Check.dueOfEach("n", new int[] {MIN, -2, -1, 13, 14, MAX}, n -> x.talk(0, 0, 5, n, under), -1);
            Check.dueOfEach("no such TOWN", Check.NOT_ONE, t -> x.talk(t, 0, 5, 3, under), -1);
            Check.dueOfEach("no such PERSON", Check.NOT_FOUR, p -> x.talk(0, p, 5, 3, under), -1);
        }
        Check.due("no PEOPLE", Check.with("").talk(0, 0, 5, 3, true), -1);
    }
}
