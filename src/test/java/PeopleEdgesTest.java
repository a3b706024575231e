/** Each sentence of the sixth of the Terms (of a TOWN as told) that names a boundary case: promises 22 to 28, 30 and 31. */
public final class PeopleEdgesTest {
    private static final int MIN = Integer.MIN_VALUE;
    private static final int MAX = Integer.MAX_VALUE;
    private static final String SIX = "person 0 0;".repeat(6);
    private static final String ALL_HATE = "hate 0 1;hate 0 2;hate 0 3;hate 0 4;hate 0 5;hate 1 2;hate 1 3;hate 1 4;hate 1 5;"
        + "hate 2 3;hate 2 4;hate 2 5;hate 3 4;hate 3 5;hate 4 5;";
    private static final String ROUND = "owes 0 1 1;owes 1 2 1;owes 2 3 1;owes 3 4 1;owes 4 5 1;owes 5 0 1;";

    public static void main(String[] args) {
        mutual();
        rings();
        richest();
        twins();
        favourites();
        feuds();
        loners();
        bores();
        ringAnswers();
        chains();
        chainAnswers();
        wealth();
        relief();
        parties();
        partyAnswers();
        tables();
        hours();
        rowAnswers();
        meet();
        guests();
        Check.finish("PeopleEdgesTest");
    }

    private static void ring(String town, int what, int due) {
        Check.due("ring(0, " + what + ") of " + town, Check.with(town).ring(0, what), due);
    }

    private static void mutual() {
        Check.says("Terms 6", "MUTUAL: of each couple what both OWE each other, the lesser of the two sums, all together.");
        ring("", 0, 0);
        ring(SIX, 0, 0);
        ring(SIX + "owes 0 1 30;", 0, 0);
        ring(SIX + "owes 0 1 30;owes 1 0 1;", 0, 1);
        ring(SIX + "owes 5 4 30;owes 4 5 30;", 0, 30);
        ring(SIX + "owes 0 1 5;owes 1 0 3;owes 2 3 9;owes 3 2 30;owes 4 5 1;", 0, 12);
    }

    private static void rings() {
        Check.says("Terms 6", "RING: the fewest PEOPLE, two or more, of whom the first OWES the second something, and so "
            + "on, the last one the first: how many (none: none).");
        ring("", 1, -1);
        ring("person 0 0;", 1, -1);
        ring(SIX, 1, -1);
        ring(SIX + "owes 0 1 1;owes 1 2 1;owes 2 3 1;owes 3 4 1;owes 4 5 1;owes 0 5 1;", 1, -1);
        ring(SIX + "owes 4 5 1;owes 5 4 1;", 1, 2);
        ring(SIX + "owes 0 1 1;owes 1 0 1;", 1, 2);
        ring(SIX + "owes 0 1 1;owes 0 3 1;owes 1 2 1;owes 1 4 1;owes 2 0 1;owes 2 5 1;", 1, 3);
        ring(SIX + "owes 5 4 1;owes 5 0 1;owes 4 3 1;owes 4 1 1;owes 3 5 1;owes 3 2 1;", 1, 3);
        ring(SIX + "owes 4 5 1;owes 5 4 0;", 1, -1);
        ring(SIX + "owes 3 4 1;owes 4 5 1;owes 5 3 1;", 1, 3);
        ring(SIX + ROUND, 1, 6);
        ring(SIX + ROUND + "owes 2 1 1;", 1, 2);
        ring(SIX + ROUND + "owes 4 0 1;", 1, 5);
        ring(SIX + ROUND + "owes 3 0 1;", 1, 4);
    }

    private static void richest() {
        Check.says("Terms 6", "RICHEST: the PERSON of most WEALTH, of several the least.");
        ring("", 2, -1);
        ring("person 0 0;", 2, 0);
        ring(SIX, 2, 0);
        ring("person 0 1;person 0 3;person 0 3;person 0 2;", 2, 1);
        ring("person 0 1;person 0 3;person 0 3;person 0 2;owes 0 3 2;", 2, 3);
        ring("person 0 1;person 0 3;person 0 3;person 0 2;owes 0 3 1;", 2, 1);
        ring("person 0 0;person 0 0;owes 0 1 30;", 2, 1);
    }

    private static void twins() {
        Check.says("Terms 6", "TWINS: couples of PEOPLE of one WIT and one PURSE.");
        ring("", 3, 0);
        ring("person 5 5;", 3, 0);
        ring("person 5 5;person 5 5;", 3, 1);
        ring("person 5 5;person 5 6;", 3, 0);
        ring("person 5 5;person 6 5;", 3, 0);
        ring("person 5 6;person 6 5;", 3, 0);
        ring(SIX, 3, 15);
    }

    private static void favourites() {
        Check.says("Terms 6", "FAVOURITE: the PERSON whom most PEOPLE OWE something, of several the least.");
        ring("", 4, -1);
        ring(SIX, 4, 0);
        ring("person 0 0;", 4, 0);
        ring(SIX + "owes 0 5 1;", 4, 5);
        ring(SIX + "owes 0 5 30;owes 0 4 1;owes 1 4 1;", 4, 4);
        ring(SIX + "owes 0 5 1;owes 1 5 1;owes 0 4 1;owes 1 4 1;", 4, 4);
        ring(SIX + "owes 0 5 1;owes 1 5 1;owes 0 4 1;owes 1 4 0;", 4, 5);
        ring(SIX + "owes 0 5 1;owes 1 5 1;owes 2 5 1;owes 3 5 1;owes 4 5 1;owes 5 0 1;owes 4 0 1;owes 3 0 1;owes 2 0 1;", 4, 5);
    }

    private static void feuds() {
        Check.says("Terms 6", "FEUD of a PERSON: PEOPLE (bits) to whom one comes by who HATES whom, one behind the other (himself, too)");
        KeptCompany alone = Check.with(SIX);
        Check.dueRow("FEUD of nobody else", p -> alone.ring(0, 20 + p), 1, 2, 4, 8, 16, 32, -2, -2, -2, -2, -2);
        KeptCompany row = Check.with(SIX + "hate 5 4;hate 4 3;hate 3 2;hate 2 1;hate 1 0;");
        Check.dueRow("FEUD of all, one behind the other", p -> row.ring(0, 20 + p), 63, 63, 63, 63, 63, 63, -2);
        KeptCompany two = Check.with(SIX + "hate 0 5;hate 5 2;hate 1 4;");
        Check.dueRow("FEUD", p -> two.ring(0, 20 + p), 37, 18, 37, 8, 18, 37, -2);
        Check.says("Terms 6", "FEUDS: how many unlike ones there are.");
        ring("", 5, 0);
        ring("person 0 0;", 5, 1);
        ring(SIX, 5, 6);
        ring(SIX + "hate 0 5;hate 5 2;hate 1 4;", 5, 3);
        ring(SIX + "hate 5 4;hate 4 3;hate 3 2;hate 2 1;hate 1 0;", 5, 1);
        ring(SIX + ALL_HATE, 5, 1);
    }

    private static void loners() {
        Check.says("Terms 6", "LONERS: PEOPLE (bits) who OWE nobody anything, and whom nobody OWES anything.");
        ring("", 6, 0);
        ring("person 9 9;", 6, 1);
        ring(SIX, 6, 63);
        ring(SIX + "owes 0 5 1;", 6, 30);
        ring(SIX + "owes 0 5 0;", 6, 63);
        ring(SIX + "owes 0 5 1;owes 5 0 1;owes 5 1 1;owes 2 3 1;owes 4 3 1;", 6, 0);
        ring(SIX + "hate 0 1;", 6, 63);
    }

    private static void bores() {
        Check.says("Terms 6", "BORES: PEOPLE by WIT, the least first, of several the least: the k-th.");
        KeptCompany alike = Check.with(SIX);
        Check.dueRow("BORES alike", k -> alike.ring(0, 10 + k), 0, 1, 2, 3, 4, 5, -2, -2, -2, -2);
        KeptCompany down = Check.with("person 9 0;person 5 0;person 0 0;person 5 0;");
        Check.dueRow("BORES", k -> down.ring(0, 10 + k), 2, 1, 3, 0, -2, -2, -2, -2, -2, -2);
        ring("", 10, -2);
        ring("person 3 3;", 10, 0);
        ring("person 3 3;", 11, -2);
    }

    private static void ringAnswers() {
        Check.says("Promise 22", "What 0: MUTUAL, 1: RING (NONE), 2: RICHEST (NONE: no PEOPLE), 3: TWINS, 4: FAVOURITE (NONE: no PEOPLE)");
        Check.dueRow("of nobody", what -> Check.with("").ring(0, what), 0, -1, -1, 0, -1, 0, 0, -2, -2, -2);
        Check.dueRow("of one", what -> Check.with("person 0 0;").ring(0, what), 0, -1, 0, 0, 0, 1, 1, -2, -2, -2);
        Check.says("Promise 22", "-2: there is none such (of either), not so many, or for another what.");
        KeptCompany x = Check.with(Check.FOUR);
        for (int what : new int[] {0, 1, 2, 3, 4, 5, 6, 10, 20}) {
            Check.dueOfEach("no such TOWN, what " + what, Check.NOT_ONE, t -> x.ring(t, what), -2);
        }
        Check.dueOfEach("another what", new int[] {MIN, -100, -20, -10, -1, 7, 8, 9, 30, 31, 40, 100, 1000, MAX},
            what -> x.ring(0, what), -2);
        Check.dueOfEach("not so many", new int[] {14, 15, 16, 17, 18, 19}, what -> x.ring(0, what), -2);
        Check.dueOfEach("no such PERSON", new int[] {24, 25, 26, 27, 28, 29}, what -> x.ring(0, what), -2);
        ring("", 20, -2);
    }

    private static void chain(String town, long... row) {
        KeptCompany x = Check.with(town);
        Check.due("chain of " + town, x.chain(0, -1), row.length);
        Check.dueRow("chain of " + town, k -> x.chain(0, k), row);
        Check.due("no more in the chain of " + town, x.chain(0, row.length), -1);
    }

    private static void chains() {
        Check.says("Terms 6", "CHAIN: the longest row of unlike PEOPLE each of whom OWES the next one something: how "
            + "many; the first row by numbers: the k-th.");
        chain("");
        chain("person 0 0;", 0);
        chain(SIX, 0);
        chain(SIX + "owes 5 4 1;", 5, 4);
        chain(SIX + "owes 5 4 0;", 0);
        chain(SIX + "owes 4 5 1;owes 5 4 1;", 4, 5);
        chain(SIX + ROUND, 0, 1, 2, 3, 4, 5);
        chain(SIX + "owes 1 0 1;owes 0 5 1;owes 5 4 1;owes 4 3 1;owes 3 2 1;owes 2 1 1;", 0, 5, 4, 3, 2, 1);
        chain(SIX + "owes 0 1 1;owes 2 3 1;owes 3 4 1;", 2, 3, 4);
        chain(SIX + "owes 0 1 1;owes 0 2 1;owes 1 3 1;owes 2 3 1;", 0, 1, 3);
        chain(SIX + "owes 0 1 1;owes 1 0 1;owes 0 2 1;owes 2 5 1;", 1, 0, 2, 5);
    }

    private static void chainAnswers() {
        Check.says("Promise 23", "NONE: not so many, or there is none such.");
        KeptCompany x = Check.with(Check.FOUR);
        Check.due("four", x.chain(0, -1), 4);
        Check.dueOfEach("not so many", new int[] {MIN, -3, -2, 4, 5, 6, MAX}, k -> x.chain(0, k), -1);
        Check.dueOfEach("no such TOWN", Check.NOT_ONE, t -> x.chain(t, -1), -1);
        Check.dueOfEach("no such TOWN", Check.NOT_ONE, t -> x.chain(t, 0), -1);
        Check.dueOfEach("fewer than PEOPLE", new int[] {1, 2, 5}, k -> Check.with(SIX).chain(0, k), -1);
    }

    private static void wealth() {
        Check.says("Terms 6", "WEALTH of a PERSON: PURSE and NET together");
        KeptCompany x = Check.with("person 0 99;" + "person 0 0;".repeat(5) + "owes 1 0 30;owes 2 0 30;owes 3 0 30;owes 4 0 30;owes 5 0 30;");
        Check.dueRow("wealth", p -> x.wealth(0, p), 249, -30, -30, -30, -30, -30, -999);
        KeptCompany poor = Check.with(SIX + "owes 0 1 30;owes 0 2 30;owes 0 3 30;owes 0 4 30;owes 0 5 30;");
        Check.dueRow("wealth", p -> poor.wealth(0, p), -150, 30, 30, 30, 30, 30);
        Check.says("Promise 24", "-999: there is none such (of either).");
        KeptCompany four = Check.with(Check.FOUR);
        Check.dueOfEach("no such TOWN", Check.NOT_ONE, t -> four.wealth(t, 0), -999);
        Check.dueOfEach("no such PERSON", Check.NOT_FOUR, p -> four.wealth(0, p), -999);
        Check.due("no PEOPLE", Check.with("").wealth(0, 0), -999);
    }

    private static void relief() {
        Check.says("Terms 6", "RELIEF of x, 0 .. 99: what is to be forgiven, together, so that nobody OWES more than x in all.");
        KeptCompany x = Check.with(SIX + "owes 0 1 30;owes 0 2 30;owes 0 3 30;owes 0 4 30;owes 0 5 30;owes 1 0 7;owes 2 0 4;owes 2 1 4;");
        Check.due("of 0", x.relief(0, 0), 165);
        Check.due("of 6", x.relief(0, 6), 144 + 1 + 2);
        Check.due("of 7", x.relief(0, 7), 143 + 1);
        Check.due("of 8", x.relief(0, 8), 142);
        Check.due("of 99", x.relief(0, 99), 51);
        Check.due("nothing is OWED", Check.with(SIX).relief(0, 0), 0);
        Check.due("no PEOPLE", Check.with("").relief(0, 0), 0);
        Check.says("Promise 25", "NONE: another x, or there is none such.");
        Check.dueOfEach("another x", new int[] {MIN, -2, -1, 100, 101, MAX}, n -> x.relief(0, n), -1);
        Check.dueOfEach("no such TOWN", Check.NOT_ONE, t -> x.relief(t, 0), -1);
    }

    private static void party(String town, long... both) {
        KeptCompany x = Check.with(town);
        for (int n = 0; n <= 6; n++) {
            boolean some = 2 * n < both.length;
            Check.due("party of " + n + ", " + town, x.party(0, n, false), some ? both[2 * n] : -1);
            Check.due("party of " + n + ", who, " + town, x.party(0, n, true), some ? both[2 * n + 1] : -1);
        }
    }

    private static void parties() {
        Check.says("Terms 6", "PARTY of n, 0 .. 6: n PEOPLE of whom no two HATE each other, so that their WITS are most "
            + "together: how much; who (bits), of several the least.");
        party("", 0, 0);
        party("person 0 0;", 0, 0, 0, 1);
        party(SIX, 0, 0, 0, 1, 0, 3, 0, 7, 0, 15, 0, 31, 0, 63);
        party("person 9 0;".repeat(6), 0, 0, 9, 1, 18, 3, 27, 7, 36, 15, 45, 31, 54, 63);
        party("person 9 0;".repeat(6) + "hate 0 5;", 0, 0, 9, 1, 18, 3, 27, 7, 36, 15, 45, 31);
        party("person 9 0;".repeat(6) + ALL_HATE, 0, 0, 9, 1);
        party("person 5 0;person 4 0;person 6 0;person 5 0;", 0, 0, 6, 4, 11, 5, 16, 13, 20, 15);
        party("person 5 0;person 4 0;person 6 0;person 5 0;hate 2 0;hate 2 3;", 0, 0, 6, 4, 10, 6, 14, 11);
    }

    private static void partyAnswers() {
        Check.says("Promise 26", "NONE: there are no n such, another n, or there is none such.");
        KeptCompany x = Check.with("person 9 0;".repeat(6));
        for (boolean who : new boolean[] {false, true}) {
            Check.dueOfEach("another n", new int[] {MIN, -2, -1, 7, 8, 32, 64, MAX}, n -> x.party(0, n, who), -1);
            Check.dueOfEach("no such TOWN", Check.NOT_ONE, t -> x.party(t, 0, who), -1);
            Check.dueOfEach("no n such", new int[] {5, 6}, n -> Check.with(Check.FOUR).party(0, n, who), -1);
        }
    }

    private static void table(String town, int many, long... row) {
        KeptCompany x = Check.with(town);
        Check.due("tables of " + town, x.tables(0, -1), many);
        Check.dueRow("tables of " + town, k -> x.tables(0, k), row);
        Check.due("no more at tables of " + town, x.tables(0, row.length), -1);
    }

    private static void tables() {
        Check.says("Terms 6", "TABLES: the fewest tables for all PEOPLE, no two who HATE each other at one: how many; at "
            + "which, 0 the first, each sits, the first row by numbers.");
        table("", 0);
        table("person 0 0;", 1, 0);
        table(SIX, 1, 0, 0, 0, 0, 0, 0);
        table(SIX + "hate 0 1;", 2, 0, 1, 0, 0, 0, 0);
        table(SIX + "hate 4 5;", 2, 0, 0, 0, 0, 0, 1);
        table(SIX + ALL_HATE, 6, 0, 1, 2, 3, 4, 5);
        table(SIX + "hate 0 1;hate 1 2;hate 2 0;", 3, 0, 1, 2, 0, 0, 0);
        table(SIX + "hate 0 5;hate 5 1;hate 1 4;", 2, 0, 0, 0, 0, 1, 1);
        table(SIX + "hate 0 2;hate 2 3;hate 3 1;", 2, 0, 1, 1, 0, 0, 0);
        table(SIX + "hate 0 1;hate 1 2;hate 2 3;hate 3 4;hate 4 0;", 3, 0, 1, 0, 1, 2, 0);
    }

    private static void hour(String more, int many, long... row) {
        KeptCompany x = Check.with(SIX + more);
        Check.due("hour of " + more, x.hour(0, -1), many);
        Check.dueRow("hour of " + more, k -> x.hour(0, k), row);
        Check.due("no more in the hour of " + more, x.hour(0, row.length), -1);
    }

    private static void hours() {
        Check.says("Terms 6", "HOUR: each PERSON sits with one who OWES him 1 or more, or with nobody, none who HATE each "
            + "other with one: so that most sit");
        hour("", 0, 6, 6, 6, 6, 6, 6);
        hour("owes 5 0 0;", 0, 6, 6, 6, 6, 6, 6);
        hour("owes 5 0 1;", 1, 5, 6, 6, 6, 6, 6);
        hour("owes 0 1 1;owes 0 2 1;owes 0 3 1;owes 0 4 1;owes 0 5 1;", 5, 6, 0, 0, 0, 0, 0);
        hour("owes 0 1 1;owes 0 2 1;owes 0 3 1;owes 0 4 1;owes 0 5 1;" + ALL_HATE, 1, 6, 0, 6, 6, 6, 6);
        hour(ROUND + ALL_HATE, 6, 5, 0, 1, 2, 3, 4);
        hour("owes 0 1 1;hate 0 1;", 1, 6, 0, 6, 6, 6, 6);
        Check.says("Terms 6", "with whom each, the first row by numbers (6: with nobody).");
        hour("owes 3 5 1;owes 0 5 1;owes 4 5 1;", 1, 6, 6, 6, 6, 6, 0);
        hour("owes 0 1 1;owes 0 2 1;hate 1 2;", 1, 6, 0, 6, 6, 6, 6);
        hour("owes 0 1 1;owes 0 2 1;owes 3 1 1;hate 1 2;", 2, 6, 3, 0, 6, 6, 6);
        hour("owes 0 1 1;owes 0 2 1;owes 3 1 1;owes 3 2 1;hate 1 2;", 2, 6, 0, 3, 6, 6, 6);
        hour("owes 0 3 1;owes 0 4 1;owes 0 5 1;hate 3 4;hate 3 5;", 2, 6, 6, 6, 6, 0, 0);
        Check.due("no PEOPLE", Check.with("").hour(0, -1), 0);
        Check.due("no PEOPLE", Check.with("").hour(0, 0), -1);
        Check.due("one alone", Check.with("person 9 9;").hour(0, -1), 0);
        Check.due("one alone", Check.with("person 9 9;").hour(0, 0), 6);
    }

    private static void rowAnswers() {
        Check.says("Promise 27", "NONE: there is none such (of either).");
        KeptCompany x = Check.with(Check.FOUR);
        Check.dueOfEach("no such TOWN", Check.NOT_ONE, t -> x.tables(t, -1), -1);
        Check.dueOfEach("no such TOWN", Check.NOT_ONE, t -> x.tables(t, 0), -1);
        Check.dueOfEach("no such PERSON", new int[] {MIN, -3, -2, 4, 5, 6, MAX}, k -> x.tables(0, k), -1);
        Check.says("Promise 28", "NONE: there is none such (of either).");
        Check.dueOfEach("no such TOWN", Check.NOT_ONE, t -> x.hour(t, -1), -1);
        Check.dueOfEach("no such TOWN", Check.NOT_ONE, t -> x.hour(t, 0), -1);
        Check.dueOfEach("no such PERSON", new int[] {MIN, -3, -2, 4, 5, 6, MAX}, k -> x.hour(0, k), -1);
    }

    private static void meet(String town, boolean owes, int over, int under) {
        KeptCompany x = Check.with(town);
        Check.due("meet " + owes + ", " + town, x.meet(0, owes, false), over);
        Check.due("meet " + owes + ", under, " + town, x.meet(0, owes, true), under);
    }

    private static void meet() {
        Check.says("Terms 6", "MEET: of all couples of PEOPLE, each being alike, how likely two HATE each other, a "
            + "fraction in least terms; how likely one of them OWES the other one something, likewise.");
        String two = "person 0 0;person 0 0;";
        meet(two, false, 0, 1);
        meet(two, true, 0, 1);
        meet(two + "hate 0 1;", false, 1, 1);
        meet(two + "hate 0 1;", true, 0, 1);
        meet(two + "owes 0 1 1;", true, 1, 1);
        meet(two + "owes 1 0 1;", true, 1, 1);
        meet(two + "owes 1 0 1;owes 0 1 30;", true, 1, 1);
        meet(two + "owes 1 0 0;", true, 0, 1);
        meet(SIX + "hate 4 5;", false, 1, 15);
        meet(SIX + "hate 4 5;hate 0 1;hate 2 3;", false, 1, 5);
        meet(SIX + ALL_HATE, false, 1, 1);
        meet(SIX + ROUND, true, 2, 5);
        Check.says("Promise 30", "NONE: fewer than two PEOPLE, or there is none such.");
        meet("", false, -1, -1);
        meet("person 9 9;", false, -1, -1);
        meet("person 9 9;", true, -1, -1);
        KeptCompany x = Check.with(Check.FOUR);
        Check.dueOfEach("no such TOWN", Check.NOT_ONE, t -> x.meet(t, false, false), -1);
        Check.dueOfEach("no such TOWN, under", Check.NOT_ONE, t -> x.meet(t, true, true), -1);
    }

    private static void guest(KeptCompany x, int n, int over, int under) {
        Check.due("guest of " + n, x.guest(0, n, false), over);
        Check.due("guest of " + n + ", under", x.guest(0, n, true), under);
    }

    private static void guests() {
        Check.says("Terms 6", "GUEST of n, 0 .. 99: how likely one of the PEOPLE, each being alike, has n or more in his "
            + "PURSE, a fraction in least terms.");
        KeptCompany x = Check.with("person 0 0;person 0 1;person 0 50;person 0 50;person 0 98;person 0 99;");
        guest(x, 0, 1, 1);
        guest(x, 1, 5, 6);
        guest(x, 2, 2, 3);
        guest(x, 50, 2, 3);
        guest(x, 51, 1, 3);
        guest(x, 98, 1, 3);
        guest(x, 99, 1, 6);
        guest(Check.with("person 0 98;"), 99, 0, 1);
        guest(Check.with("person 0 99;"), 99, 1, 1);
        Check.says("Promise 31", "NONE: no PEOPLE, another n, or there is none such.");
        guest(Check.with(""), 0, -1, -1);
        Check.dueOfEach("another n", new int[] {MIN, -2, -1, 100, 101, MAX}, n -> x.guest(0, n, false), -1);
        Check.dueOfEach("another n, under", new int[] {MIN, -2, -1, 100, 101, MAX}, n -> x.guest(0, n, true), -1);
        Check.dueOfEach("no such TOWN", Check.NOT_ONE, t -> x.guest(t, 0, false), -1);
        Check.dueOfEach("no such TOWN, under", Check.NOT_ONE, t -> x.guest(t, 0, true), -1);
    }
}
