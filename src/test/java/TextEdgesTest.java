/** Each sentence of the first of the Terms (what texts tell, and FAULTS) that names a boundary case, and promises 6, 7, 19. */
public final class TextEdgesTest {
    private static final int MIN = Integer.MIN_VALUE;
    private static final int MAX = Integer.MAX_VALUE;
    private static final String SIX = "person 0 0;".repeat(6);

    public static void main(String[] args) {
        peopleAtMost();
        witAndPurse();
        owesAndHates();
        deedsAtMost();
        factsAtMost();
        fullTape();
        blanks();
        words();
        numbers();
        semicolons();
        lines();
        numbersOfLines();
        laterOnesStrike();
        places();
        faultOne();
        faultTwo();
        faultThree();
        faultFour();
        firstByPlace();
        twoOfASort();
        townAnswers();
        deedAnswers();
        factAnswers();
        Check.finish("TextEdgesTest");
    }

    private static void peopleAtMost() {
        Check.says("Terms 1", "A TOWN has PEOPLE, at most 6, from 0 on");
        StringBuilder text = new StringBuilder();
        for (int many = 0; many <= 6; many++) {
            KeptCompany x = Check.with(text.toString());
            Check.due("PEOPLE", x.town(0, 0), many);
            for (int p = 0; p < 10; p++) {
                Check.due("WIT of " + p + " of " + many, x.town(0, 10 + p), p < many ? 9 - p : -1);
            }
            text.append("person ").append(9 - many).append(" 1;");
        }
        Check.fault(0, text.toString(), 3, 66);
    }

    private static void witAndPurse() {
        Check.says("Terms 1", "WIT, 0 .. 9, PURSE, 0 .. 99");
        KeptCompany x = Check.with("person 0 99;person 9 0;person 00 01;");
        Check.dueRow("WIT", p -> x.town(0, 10 + p), 0, 9, 0, -1);
        Check.dueRow("PURSE", p -> x.town(0, 20 + p), 99, 0, 1, -1);
        Check.fault(0, "person 10 0;", 2, 7);
        Check.fault(0, "person 99 0;", 2, 7);
        Check.fault(0, "person 9 99;", 0, -1);
        Check.fault(0, "person 9 100;", 1, 9);
    }

    private static void owesAndHates() {
        Check.says("Terms 1", "of each couple of unlike PEOPLE what the first one OWES the second one, 0 .. 99 (0 at first)");
        KeptCompany x = Check.with(SIX + "owes 0 5 30;owes 4 2 1;");
        for (int a = 0; a < 6; a++) {
            for (int b = 0; b < 6; b++) {
                int due = a == 0 && b == 5 ? 30 : a == 4 && b == 2 ? 1 : 0;
                Check.due(a + " OWES " + b, x.town(0, 100 + 10 * a + b), due);
            }
        }
        KeptCompany most = Check.with("person 0 99;person 0 0;owes 1 0 30;", Check.WEEK, "lend 0 1 30;lend 0 1 30;lend 0 1 9;lend 0 1 1;");
        Check.due("99 is OWED, no more", most.till(0, 0), 3);
        Check.due("99 is OWED", most.state(0, 0, 3, 110), 99);
        Check.says("Terms 1", "couples that HATE each other");
        KeptCompany hate = Check.with(SIX + "hate 5 0;hate 2 3;hate 2 0;");
        Check.dueRow("HATES", p -> hate.town(0, 30 + p), 36, 0, 9, 4, 0, 1, -1);
        Check.dueRow("nobody HATES", p -> Check.with(SIX).town(0, 30 + p), 0, 0, 0, 0, 0, 0, -1);
    }

    private static void deedsAtMost() {
        Check.says("Terms 1", "A WEEK has DEEDS, at most 40, from 0 on.");
        for (int many : new int[] {0, 1, 39, 40}) {
            KeptCompany x = Check.with("", Check.WEEK, "hour;".repeat(many));
            Check.due("DEEDS", x.deed(0, -1, 0), many);
            Check.due("the first of " + many, x.deed(0, 0, 0), many > 0 ? 6 : -2);
            Check.due("the last of " + many, x.deed(0, many - 1, 0), many > 0 ? 6 : 0);
            Check.due("no more than " + many, x.deed(0, many, 0), -2);
            Check.due("END of " + many, x.till(0, 0), many);
        }
        Check.fault(1, "hour;".repeat(41), 3, 200);
        KeptCompany last = Check.with("", Check.WEEK, "hour;".repeat(39) + "lend 5 4 30;");
        Check.dueRow("DEED 39", what -> last.deed(0, 39, what), 1, 5, 4, 30, -2);
    }

    private static void factsAtMost() {
        Check.says("Terms 1", "A LOG has FACTS, at most 8, from 0 on: two were seen TOGETHER, or APART.");
        for (int many : new int[] {0, 1, 7, 8}) {
            KeptCompany x = Check.with("", Check.LOG, "apart 0 1;".repeat(many));
            Check.due("FACTS", x.fact(0, -1, 0), many);
            Check.due("the first of " + many, x.fact(0, 0, 0), many > 0 ? 1 : -2);
            Check.due("no more than " + many, x.fact(0, many, 0), -2);
        }
        Check.fault(2, "apart 0 1;".repeat(9), 3, 80);
        KeptCompany last = Check.with("", Check.LOG, "apart 0 1;".repeat(7) + "together 5 4;");
        Check.dueRow("FACT 7", what -> last.fact(0, 7, what), 0, 5, 4, -2);
    }

    private static void fullTape() {
        Check.says("Terms 1", "THE TAPE has at most 600 bytes.");
        Check.fault(0, " ".repeat(588) + "person 3 99;", 0, -1);
        Check.fault(0, " ".repeat(589) + "person 3 99", 1, 600);
        Check.fault(0, " ".repeat(599) + "*", 1, 599);
        Check.fault(0, " ".repeat(599) + "1", 1, 599);
        Check.fault(0, " ".repeat(594) + "person", 1, 600);
        Check.fault(0, " ".repeat(591) + "hate 0 0;", 2, 598);
        Check.fault(0, " ".repeat(591) + "hate 0 1;", 4, 600);
        Check.fault(0, " ".repeat(600), 0, -1);
        Check.fault(0, SIX + "\n".repeat(523) + "person 0 0;", 3, 589);
        Check.fault(0, "x".repeat(600), 1, 0);
        Check.fault(0, "1".repeat(600), 1, 0);
        KeptCompany x = new KeptCompany();
        Check.feed(x, "person 3 45;person 6 78;");
        Check.due("bytes behind the end are not read", x.end(22), 22);
        Check.due("text", x.text(0, -1), -1);
        Check.due("its place", x.fault(1), 22);
        Check.feed(x, "person 3 45;");
        x.end(10);
        Check.feedTwenty(x, ";");
        Check.due("a NUMBER ends where the tape was cut", x.text(0, -1), 0);
        Check.due("PURSE", x.town(0, 20), 4);
    }

    private static void blanks() {
        Check.says("Terms 1", "TOKENS, as long as they go, blanks (10, 32) between");
        Check.fault(0, "", 0, -1);
        Check.fault(0, " ", 0, -1);
        Check.fault(0, "\n", 0, -1);
        Check.fault(0, " \n \n person \n 1 \n 2 \n ; \n ", 0, -1);
        Check.fault(0, "person1\n2;person 3 4;", 0, -1);
        Check.fault(0, "person 12;", 1, 9);
        Check.fault(0, "per son 1 2;", 1, 0);
        Check.fault(0, "person 1 2;personperson 1 2;", 1, 11);
        for (int other = 0; other < 256; other++) {
            boolean blank = other == 10 || other == 32;
            boolean longer = other >= 'a' && other <= 'z';
            String text = "person" + (char) other + " 1 2;";
            if (other < '0' || other > '9') {
                Check.fault(0, text, blank ? 0 : 1, blank ? -1 : longer ? 0 : 6);
            }
        }
    }

    private static void words() {
        Check.says("Terms 1", "words, rows of letters a .. z");
        Check.fault(1, "hour`;", 1, 4);
        Check.fault(1, "houra;", 1, 0);
        Check.fault(1, "hourz;", 1, 0);
        Check.fault(1, "hour{;", 1, 4);
        Check.fault(1, "hou;", 1, 0);
        Check.fault(1, "Hour;", 1, 0);
        Check.fault(1, "hoUr;", 1, 0);
        Check.fault(1, "HOUR;", 1, 0);
        Check.fault(1, "hour;h", 1, 5);
        String[] all = {"person", "hate", "owes", "sit", "lend", "pay", "forgive", "silent", "talks", "hour", "together", "apart"};
        for (String word : all) {
            for (int i = 0; i < word.length(); i++) {
                String other = word.substring(0, i) + "q" + word.substring(i + 1);
                Check.fault(0, other + " 0 1;", 1, 0);
                Check.fault(1, other + (word.equals("hour") ? ";" : word.length() > 4 ? " 0;" : " 0 1;"), 1, 0);
                Check.fault(2, other + " 0 1;", 1, 0);
            }
            for (int sort = 0; sort < 3; sort++) {
                Check.fault(sort, " " + word.substring(1), 1, 1);
                Check.fault(sort, " " + word.substring(0, word.length() - 1) + " 0 1;", 1, 1);
                Check.fault(sort, " " + word + "s 0 1;", 1, 1);
            }
        }
    }

    private static void numbers() {
        Check.says("Terms 1", "NUMBERS, 1 or 2 digits");
        Check.fault(0, "person 0 0;", 0, -1);
        Check.fault(0, "person 09 09;", 0, -1);
        Check.fault(0, "person 00 00;", 0, -1);
        Check.fault(0, "person 009 1;", 1, 7);
        Check.fault(0, "person 1 000;", 1, 9);
        Check.fault(0, "person 1 00000000000000001;", 1, 9);
        Check.fault(0, "person 1 4294967296;", 1, 9);
        Check.fault(0, "person 1 -2;", 1, 9);
        Check.fault(0, "person 1 +2;", 1, 9);
        Check.fault(0, "person 1 2.5;", 1, 10);
        Check.fault(0, "person 1 /2;", 1, 9);
        Check.fault(0, "person 1 2:;", 1, 10);
        Check.fault(0, "person 1 2x;", 1, 10);
        Check.fault(0, "person 1 x;", 1, 9);
        KeptCompany x = Check.with("person 08 09;person 9 90;");
        Check.due("08", x.town(0, 10), 8);
        Check.due("09", x.town(0, 20), 9);
        Check.due("90", x.town(0, 21), 90);
    }

    private static void semicolons() {
        Check.says("Terms 1", "; one byte.");
        Check.fault(1, "hour;;", 1, 5);
        Check.fault(1, ";", 1, 0);
        Check.fault(1, ";hour;", 1, 0);
        Check.fault(1, "hour;hour;", 0, -1);
        Check.fault(1, "hour:", 1, 4);
        Check.fault(1, "hour<", 1, 4);
    }

    /** Of each line what goes on with no less and no more tokens than it has. */
    private static void lines() {
        Check.says("Terms 1", "A TOWN's text: ... A WEEK's text: ... A LOG's text:");
        String[] lines = {"person 0 1", "hate 0 1", "owes 0 1 2", "sit 0 1", "lend 0 1 2", "pay 0 1 2", "forgive 0 1 2", "silent 0",
            "talks 0", "hour", "together 0 1", "apart 0 1"};
        int[] sorts = {0, 0, 0, 1, 1, 1, 1, 1, 1, 1, 2, 2};
        for (int i = 0; i < lines.length; i++) {
            String before = sorts[i] == 0 ? "person 0 0;person 0 0;" : "";
            String line = before + lines[i];
            int length = line.length();
            Check.fault(sorts[i], line + ";", 0, -1);
            Check.fault(sorts[i], line + ";" + lines[i] + ";", 0, -1);
            Check.fault(sorts[i], line, 1, length);
            Check.fault(sorts[i], line + " 3;", 1, length + 1);
            Check.fault(sorts[i], line + " person", 1, length + 1);
            Check.fault(sorts[i], line + ";;", 1, length + 1);
            Check.fault(sorts[i], line + ";0", 1, length + 1);
            for (int sort = 0; sort < 3; sort++) {
                if (sort != sorts[i]) {
                    Check.fault(sort, lines[i] + ";", 1, 0);
                }
            }
            for (int last = line.lastIndexOf(' '); last > before.length(); last = line.lastIndexOf(' ', last - 1)) {
                Check.fault(sorts[i], line.substring(0, last) + ";", 1, last);
                Check.fault(sorts[i], line.substring(0, last), 1, last);
                Check.fault(sorts[i], line.substring(0, last) + " hour", 1, last + 1);
            }
        }
    }

    private static void edge(int sort, String before, int least, int most, String behind) {
        int place = before.length();
        int missing = sort == 0 && !before.startsWith("person") ? 4 : 0;
        for (int number : new int[] {least, most}) {
            String text = before + number + behind;
            Check.fault(sort, text, missing, missing == 0 ? -1 : text.length());
        }
        if (least > 0) {
            Check.fault(sort, before + (least - 1) + behind, 2, place);
        }
        Check.fault(sort, before + (most + 1) + behind, 2, place);
        Check.fault(sort, before + "99" + behind, 2, place);
    }

    private static void numbersOfLines() {
        Check.says("Terms 1", "(person: WIT, PURSE; hate: two PEOPLE, 0 .. 5; owes: two PEOPLE, how much, 0 .. 30)");
        edge(0, "person ", 0, 9, " 5;");
        edge(0, "hate ", 0, 5, " 3;");
        edge(0, "hate 3 ", 0, 5, ";");
        edge(0, "owes ", 0, 5, " 3 7;");
        edge(0, "owes 3 ", 0, 5, " 7;");
        edge(0, SIX + "owes 3 4 ", 0, 30, ";");
        Check.says("Terms 1", "(sit: a creditor, a debtor, 0 .. 5 each; lend, pay, forgive: ..., how much, 1 .. 30; "
            + "silent, talks: a PERSON)");
        edge(1, "sit ", 0, 5, " 3;");
        edge(1, "sit 3 ", 0, 5, ";");
        for (String word : new String[] {"lend", "pay", "forgive"}) {
            edge(1, word + " ", 0, 5, " 3 7;");
            edge(1, word + " 3 ", 0, 5, " 7;");
            edge(1, word + " 3 4 ", 1, 30, ";");
        }
        edge(1, "silent ", 0, 5, ";");
        edge(1, "talks ", 0, 5, ";");
        Check.says("Terms 1", "A LOG's text: {('together' | 'apart') NUMBER NUMBER ';'} (two PEOPLE).");
        for (String word : new String[] {"together", "apart"}) {
            edge(2, word + " ", 0, 5, " 3;");
            edge(2, word + " 3 ", 0, 5, ";");
        }
    }

    private static void laterOnesStrike() {
        Check.says("Terms 1", "Later ones strike (owes of the same two), but all others, which are further ones.");
        KeptCompany x = Check.with("owes 0 1 30;person 1 1;owes 0 1 7;person 1 1;owes 1 0 9;owes 0 1 5;");
        Check.due("the latest", x.town(0, 101), 5);
        Check.due("of the two the other way round", x.town(0, 110), 9);
        Check.due("the same PERSON twice is two PEOPLE", x.town(0, 0), 2);
        Check.due("0 strikes, too", Check.with(SIX + "owes 4 5 30;owes 4 5 0;").town(0, 145), 0);
        KeptCompany hate = Check.with(SIX + "hate 4 5;hate 5 4;hate 4 5;hate 4 0;");
        Check.due("HATES", hate.town(0, 34), 33);
        Check.due("HATES", hate.town(0, 35), 16);
        KeptCompany week = Check.with("", Check.WEEK, "silent 1;silent 1;sit 0 1;sit 0 1;");
        Check.due("the same DEED twice is two DEEDS", week.deed(0, -1, 0), 4);
        KeptCompany log = Check.with("", Check.LOG, "apart 0 1;apart 0 1;together 0 1;");
        Check.due("the same FACT twice is two FACTS", log.fact(0, -1, 0), 3);
    }

    private static void places() {
        Check.says("Terms 1", "FAULTS of all, with places (a token's first byte; the end's)");
        Check.fault(0, "*", 1, 0);
        Check.fault(0, "  hat 0 1;", 1, 2);
        Check.fault(0, "hate 0 11;", 2, 7);
        Check.fault(0, "hate 0 \n\n 06;", 2, 10);
        Check.fault(0, "hate 0 1", 1, 8);
        Check.fault(0, "hate 0 1 \n", 1, 10);
        Check.fault(0, "hate 0 1; \n", 4, 11);
        Check.fault(1, "hour;".repeat(40) + " \n hour;", 3, 203);
    }

    private static void faultOne() {
        Check.says("Terms 1", "1 the first byte or token with which no text goes on (a longer row of digits is no token).");
        Check.fault(0, "person 1 2;person 123 4;*", 1, 18);
        Check.fault(0, "person 1 2;*;123", 1, 11);
        Check.fault(0, "person 100 100;", 1, 7);
        Check.fault(0, "person 1 2 100;", 1, 11);
        Check.fault(0, "100", 1, 0);
        Check.fault(0, "person 1 2; 100", 1, 12);
        Check.fault(0, "person*", 1, 6);
        Check.fault(0, "person 1*2;", 1, 8);
        Check.fault(0, "hat*", 1, 0);
        Check.fault(2, "together 0 1;apart 012 3;", 1, 19);
    }

    private static void faultTwo() {
        Check.says("Terms 1", "2 a NUMBER that can't be (as above; of two PEOPLE the second one, if it is the first");
        for (int p = 0; p < 6; p++) {
            Check.fault(0, "hate " + p + " " + p + ";", 2, 7);
            Check.fault(0, "owes " + p + " " + p + " 1;", 2, 7);
            Check.fault(1, "sit " + p + " 0" + p + ";", 2, 6);
            Check.fault(1, "lend " + p + " " + p + " 1;", 2, 7);
            Check.fault(1, "pay " + p + " " + p + " 1;", 2, 6);
            Check.fault(1, "forgive " + p + " " + p + " 1;", 2, 10);
            Check.fault(2, "together " + p + " " + p + ";", 2, 11);
            Check.fault(2, "apart 0" + p + " " + p + ";", 2, 9);
        }
        Check.fault(0, "hate 6 6;", 2, 5);
        Check.fault(0, "person 5 5;", 0, -1);
        Check.fault(1, "lend 4 1 4;", 0, -1);
        Check.fault(1, "lend 4 1 1;", 0, -1);
        Check.says("Terms 1", "a line with such a NUMBER tells its PERSON, DEED, FACT all the same)");
        Check.fault(0, "person 10 0;hate 0 1;", 2, 7);
        Check.fault(0, "person 10 0;" + SIX, 2, 7);
        Check.fault(0, SIX + "person 10 0;", 3, 66);
        Check.fault(1, "sit 6 0;" + "hour;".repeat(40), 2, 4);
        Check.fault(1, "hour;".repeat(40) + "silent 6;", 3, 200);
        Check.fault(2, "apart 0 6;" + "apart 0 1;".repeat(8), 2, 8);
        Check.fault(2, "apart 0 1;".repeat(8) + "apart 0 6;", 3, 80);
    }

    private static void faultThree() {
        Check.says("Terms 1", "3 a 7th PERSON, a 41st DEED, a 9th FACT, at its first token.");
        Check.fault(0, SIX, 0, -1);
        Check.fault(0, SIX + " person 0 0;", 3, 67);
        Check.fault(0, SIX + "person 0 0;person 0 0;", 3, 66);
        Check.fault(0, SIX + "hate 0 1;".repeat(9) + "owes 0 1 3;".repeat(9), 0, -1);
        Check.fault(0, SIX + "hate 0 1;person 0 0;", 3, 75);
        Check.fault(1, "silent 5;".repeat(40), 0, -1);
        Check.fault(1, "silent 5;".repeat(41), 3, 360);
        Check.fault(1, "hour;".repeat(50), 3, 200);
        Check.fault(2, "together 0 1;".repeat(8), 0, -1);
        Check.fault(2, "together 0 1;".repeat(12), 3, 104);
    }

    private static void faultFour() {
        Check.says("Terms 1", "If there is none of these, at the end's place, of a TOWN: 4 a PERSON that was told of and is not there.");
        for (int many = 0; many < 6; many++) {
            String people = "person 0 0;".repeat(many);
            String[] missing = {"hate 0 " + Math.max(many, 1) + ";", "hate " + (many == 0 ? 1 : many) + " 0;",
                "owes 0 " + Math.max(many, 1) + " 0;", "owes 5 " + (many == 5 ? 0 : many) + " 9;", "hate 5 " + (many == 5 ? 4 : 0) + ";"};
            for (String line : missing) {
                int there = people.length() + line.length();
                Check.fault(0, people + line, 4, there);
                Check.fault(0, line + people, 4, there);
                Check.fault(0, line + people + " \n", 4, there + 2);
            }
        }
        Check.fault(0, "hate 5 4;owes 5 0 1;" + SIX, 0, -1);
        Check.fault(0, "owes 0 1 5;owes 0 1 0;person 0 0;", 4, 33);
        Check.fault(0, "hate 0 2;person 0 0;person 0 0;hate 0 1;", 4, 40);
        Check.fault(0, "owes 2 0 1;person 0 0;person 0 0;owes 0 1 1;hate 0 1;", 4, 53);
        Check.fault(0, "hate 0 1;person 0 10;person 10 0;", 2, 28);
        Check.fault(0, "hate 0 1;person", 1, 15);
        Check.fault(1, "sit 5 4;lend 3 2 1;silent 1;", 0, -1);
        Check.fault(2, "together 4 5;apart 5 0;", 0, -1);
    }

    private static void firstByPlace() {
        Check.says("Terms 1", "If there is none, the first by place, of one place the least");
        Check.fault(0, "hate 1 1;owes 0 1 31;person 10 1;", 2, 7);
        Check.fault(0, "owes 0 1 31;hate 1 1;", 2, 9);
        Check.fault(0, "hate 9 9;" + SIX + "person 0 0;", 2, 5);
        Check.fault(0, SIX + "person 0 0;hate 9 9;", 3, 66);
        Check.fault(0, SIX + "hate 9 9;person 0 0;", 2, 71);
        Check.fault(0, "hate 9 9;" + SIX + "person 0 0;*", 1, 86);
        Check.fault(1, "hour;".repeat(41) + "sit", 1, 208);
        Check.fault(2, "apart 7 7;" + "apart 0 1;".repeat(9) + "apart 0 100;", 1, 108);
    }

    private static void twoOfASort() {
        Check.says("Terms 1", "TOWNS, at most 2 (sort 0), WEEKS, at most 2 (1), LOGS, at most 2 (2), from 0 on.");
        KeptCompany x = new KeptCompany();
        String[] lines = {"person 0 0;", "hour;", "apart 0 1;"};
        for (int sort = 0; sort < 3; sort++) {
            Check.due("the first", Check.tell(x, sort, -1, lines[sort]), 0);
            Check.due("the second", Check.tell(x, sort, -1, lines[sort].repeat(2)), 1);
            Check.due("no third", Check.tell(x, sort, -1, lines[sort].repeat(3)), -2);
            Check.due("two are there", x.count(sort), 2);
        }
        Check.dueRow("PEOPLE", t -> x.town(t, 0), 1, 2, -1);
        Check.dueRow("DEEDS", w -> x.deed(w, -1, 0), 1, 2, -2);
        Check.dueRow("FACTS", l -> x.fact(l, -1, 0), 1, 2, -2);
    }

    private static void townAnswers() {
        Check.says("Promise 6", "100 + 10 a + b: what a OWES b (0: himself).");
        KeptCompany x = Check.with(Check.FOUR);
        Check.dueRow("himself", p -> x.town(0, 100 + 11 * p), 0, 0, 0, 0, -1, -1, -1, -1, -1, -1, -1);
        Check.says("Promise 6", "NONE: there is none such (of any), or for another what.");
        Check.dueOfEach("no such TOWN", Check.NOT_ONE, t -> x.town(t, 0), -1);
        Check.dueOfEach("no such TOWN, WIT", Check.NOT_ONE, t -> x.town(t, 10), -1);
        Check.dueOfEach("another what", new int[] {MIN, -100, -10, -1, 1, 2, 9, 90, 99, 200, 210, 1000, MAX}, w -> x.town(0, w), -1);
        for (int what = 0; what < 1000; what++) {
            boolean person = what >= 10 && what < 40 && what % 10 < 4;
            boolean couple = what >= 100 && what < 140 && what % 10 < 4;
            Check.due("town(0, " + what + ") is there", x.town(0, what) != -1, what == 0 || person || couple);
        }
        KeptCompany six = Check.with(SIX + "owes 5 4 9;");
        Check.due("the last couple", six.town(0, 154), 9);
        Check.dueOfEach("no such PERSON of six", new int[] {16, 19, 26, 29, 36, 39, 106, 109, 156, 159, 160, 165, 190},
            w -> six.town(0, w), -1);
        KeptCompany none = Check.with("");
        Check.due("PEOPLE of nobody", none.town(0, 0), 0);
        Check.dueOfEach("no PEOPLE", new int[] {10, 20, 30, 100, 101}, w -> none.town(0, w), -1);
    }

    private static void deedAnswers() {
        Check.says("Promise 7", "of DEED k, what 0: 0 sit, ... 6 hour, 1, 2, 3: its numbers (NONE without).");
        KeptCompany x = Check.with("", Check.WEEK, "sit 5 0;lend 0 5 30;pay 1 2 1;forgive 4 3 9;silent 0;talks 5;hour;");
        Check.dueRow("kind", k -> x.deed(0, k, 0), 0, 1, 2, 3, 4, 5, 6, -2);
        Check.dueRow("first number", k -> x.deed(0, k, 1), 5, 0, 1, 4, 0, 5, -1, -2);
        Check.dueRow("second number", k -> x.deed(0, k, 2), 0, 5, 2, 3, -1, -1, -1, -2);
        Check.dueRow("third number", k -> x.deed(0, k, 3), -1, 30, 1, 9, -1, -1, -1, -2);
        Check.says("Promise 7", "-2: there is none such (of either), or for another what.");
        Check.dueOfEach("no such WEEK", Check.NOT_ONE, w -> x.deed(w, -1, 0), -2);
        Check.dueOfEach("no such WEEK", Check.NOT_ONE, w -> x.deed(w, 0, 0), -2);
        Check.dueOfEach("no such DEED", new int[] {MIN, -2, 7, 8, 40, MAX}, k -> x.deed(0, k, 0), -2);
        Check.dueOfEach("no such DEED, a number", new int[] {MIN, -2, 7, 8, 40, MAX}, k -> x.deed(0, k, 1), -2);
        for (int k = 0; k < 7; k++) {
            int one = k;
            Check.dueOfEach("another what", new int[] {MIN, -2, -1, 4, 5, MAX}, what -> x.deed(0, one, what), -2);
        }
        Check.dueOfEach("how many, another what", new int[] {MIN, -2, -1, 1, 2, 3, 4, MAX}, what -> x.deed(0, -1, what), -2);
        Check.due("no DEEDS", Check.with("", Check.WEEK, "").deed(0, 0, 0), -2);
    }

    private static void factAnswers() {
        Check.says("Promise 19", "How many FACTS (k NONE, what 0); of FACT k, what 0: 0 TOGETHER, 1 APART, 1, 2: the two.");
        KeptCompany x = Check.with("", Check.LOG, "apart 5 0;together 0 5;");
        Check.due("FACTS", x.fact(0, -1, 0), 2);
        Check.dueRow("FACT 0", what -> x.fact(0, 0, what), 1, 5, 0, -2);
        Check.dueRow("FACT 1", what -> x.fact(0, 1, what), 0, 0, 5, -2);
        Check.says("Promise 19", "-2: there is none such (of either), or for another what.");
        Check.dueOfEach("no such LOG", Check.NOT_ONE, l -> x.fact(l, -1, 0), -2);
        Check.dueOfEach("no such LOG", Check.NOT_ONE, l -> x.fact(l, 0, 0), -2);
        Check.dueOfEach("no such FACT", new int[] {MIN, -2, 2, 3, 8, MAX}, k -> x.fact(0, k, 0), -2);
        Check.dueOfEach("another what", new int[] {MIN, -2, -1, 3, 4, MAX}, what -> x.fact(0, 1, what), -2);
        Check.dueOfEach("how many, another what", new int[] {MIN, -2, -1, 1, 2, 3, MAX}, what -> x.fact(0, -1, what), -2);
        Check.due("no FACTS", Check.with("", Check.LOG, "").fact(0, 0, 0), -2);
    }
}
