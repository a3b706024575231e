/** Promises 6 to 9, 21, 29 and 32: a TOWN as told, DEEDS, STATES, DRAWN, GROWN, what was behind a WEEK. */
public final class WeekTest {
    private static final String WEEK = "sit 1 0;sit 0 1;silent 3;hour;sit 2 0;silent 0;hour;sit 1 3;hour;sit 1 0;hour;"
        + "lend 1 2 10;pay 2 3 5;forgive 3 2 10;talks 0;sit 2 0;hour;hour;hour;hour;hour;hour;lend 2 0 30;";

    public static void main(String[] args) {
        towns();
        deeds();
        states();
        wholeWeek();
        sitting();
        lending();
        paying();
        forgiving();
        sundays();
        drawn();
        grown();
        Check.finish("WeekTest");
    }

    private static void towns() {
        KeptCompany x = Check.with(Check.FOUR + "owes 0 1 7;hate 2 1;");
        int[][] due = {{0, 4}, {10, 5}, {11, 9}, {12, 2}, {13, 5}, {20, 20}, {21, 50}, {22, 10}, {23, 20},
            {30, 8}, {31, 4}, {32, 2}, {33, 1}, {100, 0}, {101, 7}, {102, 4}, {103, 0}, {110, 3}, {123, 30}, {131, 2},
            {133, 0}, {14, -1}, {24, -1}, {34, -1}, {104, -1}, {140, -1}, {1, -1}, {-1, -1}, {9, -1}, {19, -1},
            {40, -1}, {99, -1}, {160, -1}, {200, -1}, {Integer.MIN_VALUE, -1}, {Integer.MAX_VALUE, -1}};
        for (int[] one : due) {
            Check.due("town(0, " + one[0] + ")", x.town(0, one[0]), one[1]);
        }
        for (int what = 34; what < 100; what++) {
            Check.due("town(0, " + what + ")", x.town(0, what), -1);
        }
        Check.due("town(1, 0)", x.town(1, 0), -1);
        Check.due("town(-1, 0)", x.town(-1, 0), -1);
    }

    private static void deeds() {
        KeptCompany x = Check.with(Check.FOUR, Check.WEEK, "sit 1 0;lend 1 2 10;pay 2 3 5;forgive 3 2 30;silent 3;talks 4;hour;");
        int[][] due = {{0, 1, 0, -1}, {1, 1, 2, 10}, {2, 2, 3, 5}, {3, 3, 2, 30}, {4, 3, -1, -1}, {5, 4, -1, -1}, {6, -1, -1, -1}};
        Check.due("DEEDS", x.deed(0, -1, 0), 7);
        for (int k = 0; k < 7; k++) {
            for (int what = 0; what < 4; what++) {
                Check.due("deed(0, " + k + ", " + what + ")", x.deed(0, k, what), due[k][what]);
            }
            Check.due("what -1", x.deed(0, k, -1), -2);
            Check.due("what 4", x.deed(0, k, 4), -2);
        }
        Check.due("DEEDS, what 1", x.deed(0, -1, 1), -2);
        Check.due("DEED 7", x.deed(0, 7, 0), -2);
        Check.due("DEED -2", x.deed(0, -2, 0), -2);
        Check.due("WEEK 1", x.deed(1, 0, 0), -2);
        Check.due("WEEK -1", x.deed(-1, 0, 0), -2);
    }

    private static void state(KeptCompany x, int n, int... due) {
        for (int i = 0; i < due.length; i += 2) {
            Check.due("state(0, 0, " + n + ", " + due[i] + ")", x.state(0, 0, n, due[i]), due[i + 1]);
        }
    }

    private static void states() {
        KeptCompany x = Check.with(Check.FOUR, Check.WEEK, WEEK);
        Check.due("till", x.till(0, 0), 22);
        Check.due("till(1, 0)", x.till(1, 0), -1);
        Check.due("till(0, 1)", x.till(0, 1), -1);
        Check.due("till(-1, 0)", x.till(-1, 0), -1);
        state(x, 0, 0, 0, 1, 44, 2, 0, 3, 0, 4, 0, 10, 20, 21, 6, 101, 5);
        state(x, 1, 0, 0, 1, 43, 2, 1, 3, 0, 4, 2, 20, 6, 21, 0, 101, 4, 110, 3);
        state(x, 2, 1, 42, 2, 2, 4, 3, 20, 1, 21, 0, 110, 2);
        state(x, 3, 3, 8);
        state(x, 4, 0, 1, 3, 8, 4, 0, 20, 6, 21, 6);
        state(x, 8, 0, 2, 1, 41, 2, 4, 3, 9, 4, 2, 21, 3, 131, 2);
        state(x, 10, 0, 3, 2, 5, 101, 4);
        state(x, 16, 0, 4, 1, 35, 2, 6, 3, 8, 10, 20, 11, 40, 12, 15, 13, 25, 121, 10, 123, 15, 102, 2);
        state(x, 22, 0, 10, 1, 41, 101, 5, 102, 3, 110, 3, 121, 11, 123, 16, 131, 3, 100, 0, 103, 0);
        state(x, 23, 0, -1);
        state(x, 24, 0, -1);
        state(x, -1, 0, -1);
        state(x, 0, 5, -1, -1, -1, 9, -1, 14, -1, 24, -1, 30, -1, 104, -1, 140, -1, 99, -1, 200, -1);
        Check.due("no TOWN", x.state(1, 0, 0, 0), -1);
        Check.due("no WEEK", x.state(0, 1, 0, 0), -1);
    }

    private static void wholeWeek() {
        KeptCompany x = Check.with(Check.FOUR, Check.WEEK, WEEK);
        int[] due = {0, 1, 0, 2, 10, 10, 1, 0};
        for (int what = 0; what < due.length; what++) {
            Check.due("after(0, 0, " + what + ")", x.after(0, 0, what), due[what]);
        }
        Check.due("after what 8", x.after(0, 0, 8), -2);
        Check.due("after what -1", x.after(0, 0, -1), -2);
        Check.due("after no TOWN", x.after(1, 0, 0), -2);
        Check.due("after no WEEK", x.after(0, 1, 0), -2);
        Check.tell(x, Check.WEEK, 0, "silent 0;hour;sit 2 0;hour;sit 0 1;sit 3 1;sit 2 0;");
        int[] stopped = {2, 0, 0, 1, 0, 0, 0, 0};
        for (int what = 0; what < stopped.length; what++) {
            Check.due("after(0, 0, " + what + ") stopped", x.after(0, 0, what), stopped[what]);
        }
        Check.tell(x, Check.WEEK, 0, "hour;forgive 1 3 2;forgive 0 1 3;forgive 2 0 5;");
        int[] nobody = {-1, -1, -1, 0, 0, 5, 0, 10};
        for (int what = 0; what < nobody.length; what++) {
            Check.due("after(0, 0, " + what + ") nobody sat", x.after(0, 0, what), nobody[what]);
        }
    }

    private static void till(String town, String week, int due) {
        KeptCompany x = Check.with(town, Check.WEEK, week);
        Check.due(week, x.till(0, 0), due);
    }

    private static void sitting() {
        till(Check.FOUR, "sit 1 0;sit 1 3;", 1);
        till(Check.FOUR, "sit 1 0;sit 2 0;", 1);
        till(Check.FOUR, "sit 1 0;hour;sit 2 0;", 3);
        till(Check.FOUR, "sit 3 0;", 0);
        till(Check.FOUR, "sit 0 2;", 0);
        till(Check.FOUR, "sit 4 0;", 0);
        till(Check.FOUR, "sit 0 4;", 0);
        till(Check.FOUR, "silent 4;", 0);
        till(Check.FOUR, "talks 4;", 0);
        till(Check.FOUR, "sit 1 3;hour;sit 1 3;hour;sit 1 3;", 4);
        till(Check.FOUR, "silent 3;sit 1 3;hour;sit 1 3;hour;sit 1 3;", 6);
        String both = "person 0 0;person 0 0;person 0 0;owes 0 1 1;owes 0 2 1;owes 1 0 1;";
        till(both, "sit 1 0;sit 2 0;sit 0 1;", 3);
        till(both + "hate 0 1;", "sit 1 0;sit 2 0;sit 0 1;", 3);
        till(both + "hate 2 1;", "sit 0 1;sit 1 0;sit 2 0;", 2);
        till(both + "hate 2 0;owes 2 1 1;owes 2 0 1;", "sit 0 1;sit 2 0;sit 1 2;", 3);
    }

    private static void lending() {
        till(Check.FOUR, "lend 0 1 20;", 1);
        till(Check.FOUR, "lend 0 1 21;", 0);
        till("person 0 30;person 0 70;", "lend 0 1 29;", 1);
        till("person 0 30;person 0 70;", "lend 0 1 30;", 0);
        till("person 0 99;person 0 0;owes 1 0 30;", "lend 0 1 30;pay 1 0 1;lend 0 1 30;lend 0 1 11;", 3);
        till("person 0 99;person 0 0;person 0 0;owes 1 0 30;", "lend 0 1 30;lend 0 1 30;lend 0 1 9;", 3);
        till("person 0 99;person 0 0;person 0 0;owes 1 0 30;", "lend 0 1 30;lend 0 1 30;lend 0 1 10;", 2);
        till(Check.FOUR, "lend 0 4 1;", 0);
        till(Check.FOUR, "lend 4 0 1;", 0);
    }

    private static void paying() {
        till(Check.FOUR, "pay 0 1 5;", 1);
        till(Check.FOUR, "pay 0 1 6;", 0);
        till(Check.FOUR, "pay 2 3 10;", 1);
        till(Check.FOUR, "pay 2 3 11;", 0);
        till("person 0 9;person 0 95;owes 0 1 9;", "pay 0 1 4;", 1);
        till("person 0 9;person 0 95;owes 0 1 9;", "pay 0 1 5;", 0);
        till(Check.FOUR, "pay 0 5 1;", 0);
    }

    private static void forgiving() {
        till(Check.FOUR, "forgive 1 0 5;", 1);
        till(Check.FOUR, "forgive 1 0 6;", 0);
        till(Check.FOUR, "forgive 0 2 1;", 0);
        till(Check.FOUR, "forgive 5 0 1;", 0);
    }

    private static void sundays() {
        String rich = "person 0 99;person 0 0;owes 1 0 30;";
        KeptCompany x = Check.with(rich, Check.WEEK, "lend 0 1 30;lend 0 1 30;lend 0 1 8;" + "hour;".repeat(30));
        Check.due("98", x.state(0, 0, 12, 110), 98);
        Check.due("99", x.state(0, 0, 13, 110), 99);
        Check.due("99 at most", x.state(0, 0, 33, 110), 99);
        Check.due("0 stays 0", x.state(0, 0, 33, 101), 0);
        Check.due("SUNDAYS", x.after(0, 0, 6), 3);
        Check.due("hour", x.state(0, 0, 33, 0), 30);
    }

    private static void drawn() {
        KeptCompany x = Check.with(Check.FOUR);
        Check.due("drawn 0 times", x.drawn(0, 7, 0, 1), 44);
        Check.due("n -1", x.drawn(0, 7, -1, 1), -1);
        Check.due("n 61", x.drawn(0, 7, 61, 1), -1);
        Check.due("no TOWN", x.drawn(1, 7, 0, 1), -1);
        Check.due("no such what", x.drawn(0, 7, 0, 5), -1);
        Check.due("no such PERSON", x.drawn(0, 7, 0, 14), -1);
        KeptCompany alone = Check.with("person 1 1;");
        // Of SEED 0 the first numbers below 10 are 0, 6, 6, 5, 8, 5, 5, 9: of one PERSON each draws once.
        int hours = 0;
        int seed = 0;
        for (int n = 1; n <= 60; n++) {
            seed = seed * 1103515245 + 12345;
            hours += (seed >>> 16) % 10 >= 8 ? 1 : 0;
            Check.due("alone, hour", alone.drawn(0, 0, n, 0), hours);
            Check.due("alone, SILENT", alone.drawn(0, 0, n, 3), 0);
        }
    }

    private static void grown() {
        KeptCompany x = new KeptCompany();
        int[][] due = {{5, 0, 9, 5}, {5, 0, 10, 6}, {99, 0, 99, 99}, {10, 1, 10, 0}, {11, 1, 10, 2}, {98, 0, 20, 99},
            {0, 0, 99, 0}, {0, 9, 99, 0}, {99, 9, 10, 10}, {99, 9, 11, 1}, {99, 9, 0, 99}, {9, 9, 1, 0},
            {-1, 0, 0, -1}, {100, 0, 0, -1}, {0, -1, 0, -1}, {0, 10, 0, -1}, {0, 0, -1, -1}, {0, 0, 100, -1}};
        for (int[] one : due) {
            Check.due("grown(" + one[0] + ", " + one[1] + ", " + one[2] + ")", x.grown(one[0], one[1], one[2]), one[3]);
        }
    }
}
