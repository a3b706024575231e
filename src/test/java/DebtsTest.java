/** Promises 10 to 16 and 22 to 25: courts, rotas, nets, ruin, borrowing, lenders, rings, chains, wealth, relief. */
public final class DebtsTest {
    private static final String SIX = "person 3 0;person 3 0;person 3 0;person 3 0;person 3 0;person 3 0;";

    public static void main(String[] args) {
        courts();
        rotas();
        nets();
        ruins();
        borrowing();
        lenders();
        rings();
        chains();
        emptyTown();
        Check.finish("DebtsTest");
    }

    private static void courts() {
        KeptCompany x = Check.with(Check.FOUR);
        int[][] due = {{9, 6}, {3, 1}, {30, 8}, {2, 2}};
        for (int p = 0; p < 4; p++) {
            Check.due("court of " + p, x.court(0, p, false), due[p][0]);
            Check.due("court of " + p + ", who", x.court(0, p, true), due[p][1]);
        }
        Check.due("court of 4", x.court(0, 4, false), -1);
        Check.due("court of -1", x.court(0, -1, true), -1);
        Check.due("court, no TOWN", x.court(1, 0, false), -1);
        x = Check.with(SIX + "owes 0 1 5;owes 0 2 5;owes 0 3 5;owes 0 4 5;owes 0 5 9;hate 3 4;hate 1 2;hate 2 3;");
        Check.due("least of several", x.court(0, 0, true), 6);
        Check.due("how much", x.court(0, 0, false), 10);
        Check.due("who OWES nothing", x.court(0, 1, false), 0);
        Check.due("who OWES nothing, who", x.court(0, 1, true), 0);
        x = Check.with(SIX + "owes 0 1 5;owes 0 2 5;owes 0 3 5;owes 0 4 5;hate 1 2;hate 2 3;hate 1 3;hate 0 1;hate 0 4;");
        Check.due("three", x.court(0, 0, true), 14);
    }

    private static void rotas() {
        KeptCompany x = Check.with(Check.FOUR);
        Check.due("rota", x.rota(0, false), 30);
        Check.due("rota, to whom", x.rota(0, true), 3);
        Check.due("rota, no TOWN", x.rota(1, true), -2);
        Check.due("rota, no TOWN", x.rota(-1, false), -2);
        x = Check.with(SIX + "owes 0 2 5;owes 1 2 4;owes 3 5 9;");
        Check.due("rota, of several the least", x.rota(0, true), 2);
        Check.due("rota, together", x.rota(0, false), 9);
        x = Check.with(SIX);
        Check.due("rota of nothing", x.rota(0, true), 0);
        Check.due("rota of nothing", x.rota(0, false), 0);
    }

    private static void nets() {
        KeptCompany x = Check.with(Check.FOUR);
        int[] net = {-6, 4, -26, 28};
        int[] wealth = {14, 54, -16, 48};
        for (int p = 0; p < 4; p++) {
            Check.due("net of " + p, x.net(0, p), net[p]);
            Check.due("wealth of " + p, x.wealth(0, p), wealth[p]);
        }
        for (int p : new int[] {-1, 4, 6}) {
            Check.due("net of " + p, x.net(0, p), -999);
            Check.due("wealth of " + p, x.wealth(0, p), -999);
        }
        Check.due("net, no TOWN", x.net(1, 0), -999);
        Check.due("wealth, no TOWN", x.wealth(1, 0), -999);
        Check.due("settled", x.settled(0), 3);
        Check.due("settled, no TOWN", x.settled(1), -1);
        Check.due("all even", Check.with(SIX + "owes 0 1 5;owes 1 0 5;").settled(0), 0);
        Check.due("a ring of one sum", Check.with(SIX + "owes 0 1 5;owes 1 2 5;owes 2 0 5;").settled(0), 0);
        Check.due("two couples", Check.with(SIX + "owes 0 1 5;owes 2 3 7;").settled(0), 2);
        Check.due("five of six", Check.with(SIX + "owes 0 1 1;owes 0 2 2;owes 0 3 4;owes 0 4 8;owes 0 5 16;").settled(0), 5);
        Check.due("three couples", Check.with(SIX + "owes 0 1 5;owes 2 3 5;owes 4 5 5;owes 0 3 5;owes 2 5 5;owes 4 1 5;").settled(0), 3);
        Check.due("relief of 5", x.relief(0, 5), 29);
        Check.due("relief of 0", x.relief(0, 0), 44);
        Check.due("relief of 30", x.relief(0, 30), 0);
        Check.due("relief of 99", x.relief(0, 99), 0);
        Check.due("relief of 100", x.relief(0, 100), -1);
        Check.due("relief of -1", x.relief(0, -1), -1);
        Check.due("relief, no TOWN", x.relief(1, 5), -1);
    }

    private static void ruins() {
        KeptCompany x = Check.with(Check.FOUR);
        int[] due = {5, 6, 4, 12};
        for (int p = 0; p < 4; p++) {
            Check.due("ruin of " + p, x.ruin(0, p), due[p]);
        }
        Check.due("ruin of 4", x.ruin(0, 4), -1);
        Check.due("ruin of -1", x.ruin(0, -1), -1);
        Check.due("ruin, no TOWN", x.ruin(1, 0), -1);
        x = Check.with("person 0 4;person 0 4;person 0 4;person 0 5;owes 3 2 5;owes 2 1 5;owes 1 0 5;");
        Check.due("one by the other", x.ruin(0, 3), 14);
        Check.due("the last", x.ruin(0, 0), 1);
        Check.due("the middle", x.ruin(0, 2), 6);
        x = Check.with("person 0 0;person 0 5;owes 0 1 5;owes 1 0 5;");
        Check.due("just enough", x.ruin(0, 0), 1);
        Check.due("not enough", x.ruin(0, 1), 3);
    }

    private static void borrowing() {
        KeptCompany x = Check.with(Check.FOUR);
        Check.due("tedious", x.borrow(0, 0, 55, -1), 75);
        int[] from = {0, 50, 0, 5};
        for (int p = 0; p < 4; p++) {
            Check.due("borrow from " + p, x.borrow(0, 0, 55, p), from[p]);
        }
        Check.due("all", x.borrow(0, 0, 80, -1), 50 + 100 + 80);
        Check.due("too much", x.borrow(0, 0, 81, -1), -1);
        Check.due("too much, from himself", x.borrow(0, 0, 81, 0), -1);
        Check.due("lesser first", x.borrow(0, 1, 21, 0), 20);
        Check.due("lesser first", x.borrow(0, 1, 21, 3), 1);
        Check.due("n 0", x.borrow(0, 0, 0, -1), -1);
        Check.due("n 1", x.borrow(0, 0, 1, -1), 1);
        Check.due("n 100", x.borrow(0, 0, 100, -1), -1);
        Check.due("from 4", x.borrow(0, 0, 1, 4), -1);
        Check.due("from -2", x.borrow(0, 0, 1, -2), -1);
        Check.due("PERSON 4", x.borrow(0, 4, 1, -1), -1);
        Check.due("PERSON -1", x.borrow(0, -1, 1, -1), -1);
        Check.due("no TOWN", x.borrow(1, 0, 1, -1), -1);
        x = Check.with("person 0 99;person 0 99;");
        Check.due("99 of WIT 0", x.borrow(0, 0, 99, -1), 990);
    }

    private static void lenders() {
        KeptCompany x = Check.with(Check.FOUR);
        int[] row = {1, 0, 3, 2};
        Check.due("lenders", x.lenders(0, -1), 7);
        for (int k = 0; k < 4; k++) {
            Check.due("lenders " + k, x.lenders(0, k), row[k]);
        }
        Check.due("lenders 4", x.lenders(0, 4), -1);
        Check.due("lenders -2", x.lenders(0, -2), -1);
        Check.due("no TOWN", x.lenders(1, -1), -1);
        x = Check.with("person 1 9;person 2 9;person 3 9;");
        int[] worthless = {1, 0, 6};
        Check.due("PURSES alike", x.lenders(0, -1), 0);
        for (int k = 0; k < 3; k++) {
            Check.due("first row by numbers " + k, x.lenders(0, k), worthless[k]);
        }
        x = Check.with("person 5 5;");
        Check.due("alone", x.lenders(0, -1), 0);
        Check.due("alone, to nobody", x.lenders(0, 0), 6);
    }

    private static void rings() {
        KeptCompany x = Check.with(Check.FOUR);
        int[][] due = {{0, 3}, {1, 2}, {2, 1}, {3, 1}, {4, 1}, {5, 2}, {6, 0}, {10, 2}, {11, 0}, {12, 3}, {13, 1},
            {20, 9}, {21, 6}, {22, 6}, {23, 9}, {14, -2}, {19, -2}, {24, -2}, {29, -2}, {30, -2}, {7, -2}, {9, -2}, {-1, -2},
            {Integer.MIN_VALUE, -2}, {Integer.MAX_VALUE, -2}};
        for (int[] one : due) {
            Check.due("ring(0, " + one[0] + ")", x.ring(0, one[0]), one[1]);
        }
        Check.due("ring, no TOWN", x.ring(1, 0), -2);
        Check.due("ring, no TOWN", x.ring(-1, 20), -2);
        x = Check.with(SIX + "owes 0 1 1;owes 1 2 1;owes 2 3 1;owes 3 1 1;hate 0 1;hate 1 2;hate 4 3;");
        Check.due("RING of three", x.ring(0, 1), 3);
        Check.due("MUTUAL", x.ring(0, 0), 0);
        Check.due("RICHEST", x.ring(0, 2), 1);
        Check.due("TWINS", x.ring(0, 3), 15);
        Check.due("FAVOURITE", x.ring(0, 4), 1);
        Check.due("FEUDS", x.ring(0, 5), 3);
        Check.due("LONERS", x.ring(0, 6), 48);
        Check.due("FEUD of 0", x.ring(0, 20), 7);
        Check.due("FEUD of 2", x.ring(0, 22), 7);
        Check.due("FEUD of 5", x.ring(0, 25), 32);
        Check.due("no RING", Check.with(SIX + "owes 0 1 1;owes 0 2 1;owes 1 2 1;").ring(0, 1), -1);
        Check.due("RING of six", Check.with(SIX + "owes 0 5 1;owes 5 1 1;owes 1 4 1;owes 4 2 1;owes 2 3 1;owes 3 0 1;").ring(0, 1), 6);
        Check.due("nobody OWES: FAVOURITE", Check.with(SIX).ring(0, 4), 0);
        Check.due("nobody OWES: RICHEST", Check.with(SIX).ring(0, 2), 0);
        Check.due("all poor", Check.with("person 0 0;person 0 0;person 0 0;owes 0 1 1;owes 1 2 2;owes 2 0 1;").ring(0, 2), 2);
    }

    private static void chain(String town, int... row) {
        KeptCompany x = Check.with(town);
        Check.due("chain of " + town, x.chain(0, -1), row.length);
        for (int k = 0; k < row.length; k++) {
            Check.due("chain " + k + " of " + town, x.chain(0, k), row[k]);
        }
        Check.due("not so many", x.chain(0, row.length), -1);
        Check.due("chain -2", x.chain(0, -2), -1);
        Check.due("no TOWN", x.chain(1, -1), -1);
        Check.due("no TOWN", x.chain(1, 0), -1);
    }

    private static void chains() {
        chain(Check.FOUR, 0, 2, 3, 1);
        chain(SIX, 0);
        chain("");
        chain(SIX + "owes 3 1 1;owes 4 0 1;", 3, 1);
        chain(SIX + "owes 5 4 1;owes 4 3 1;owes 3 2 1;owes 2 1 1;owes 1 0 1;", 5, 4, 3, 2, 1, 0);
        chain(SIX + "owes 0 1 1;owes 0 2 1;owes 2 3 1;owes 1 4 0;", 0, 2, 3);
    }

    private static void emptyTown() {
        KeptCompany x = Check.with("");
        Check.due("rota", x.rota(0, false), 0);
        Check.due("rota, to whom", x.rota(0, true), -1);
        Check.due("settled", x.settled(0), 0);
        Check.due("lenders", x.lenders(0, -1), 0);
        Check.due("lenders 0", x.lenders(0, 0), -1);
        Check.due("relief", x.relief(0, 0), 0);
        int[] due = {0, -1, -1, 0, -1, 0, 0};
        for (int what = 0; what < due.length; what++) {
            Check.due("ring(0, " + what + ") of nobody", x.ring(0, what), due[what]);
        }
        Check.due("BORES", x.ring(0, 10), -2);
        Check.due("FEUD", x.ring(0, 20), -2);
        Check.due("net", x.net(0, 0), -999);
    }
}
