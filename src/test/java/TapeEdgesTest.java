/** Each sentence of promises 1 to 5 and 35 to 37 that names a boundary case, and the one of the 512 calls. */
public final class TapeEdgesTest {
    private static final int MIN = Integer.MIN_VALUE;
    private static final int MAX = Integer.MAX_VALUE;
    private static final int[] NO_SORTS = {MIN, -2, -1, 3, 4, MAX};
    private static final int[] NO_IMAGES = {MIN, -2, -1, 3, 4, MAX};

    public static void main(String[] args) {
        newObject();
        newObjectAnswers();
        feedComesBehind();
        feedOfAFullTape();
        endCuts();
        endRefused();
        textTakesTheTape();
        textNumbers();
        textInThePlace();
        textWithAFault();
        textRefused();
        faults();
        counts();
        images();
        imagesKeepAll();
        again();
        againOfFewer();
        lastCalls();
        Check.finish("TapeEdgesTest");
    }

    private static void newObject() {
        Check.says("Terms", "The constants: `NONE = -1`: There is none.");
        Check.due("NONE", KeptCompany.NONE, -1);
        Check.says("Promise 1", "No TOWNS, WEEKS, LOGS; no images.");
        KeptCompany x = new KeptCompany();
        Check.dueRow("count", x::count, 0, 0, 0);
        Check.dueOfEach("again", new int[] {0, 1, 2}, k -> x.again(k) ? 1 : 0, 0);
        Check.due("the tape is empty", x.end(1), -1);
        Check.due("the tape is empty", x.end(0), 0);
        for (int sort = 0; sort < 3; sort++) {
            Check.due("in the place of the first", x.text(sort, 0), -2);
            Check.due("in the place of the second", x.text(sort, 1), -2);
        }
        KeptCompany told = Check.with(Check.FOUR, Check.WEEK, "hour;");
        Check.due("image of another object", told.image(0), true);
        KeptCompany other = new KeptCompany();
        Check.dueRow("count beside another object", other::count, 0, 0, 0);
        Check.due("again beside another object", other.again(0), false);
    }

    /** What each call answers, if there is none such, of an object that was told nothing. */
    private static void newObjectAnswers() {
        Check.says("Promises 6 to 34", "there is none such");
        KeptCompany x = new KeptCompany();
        long[] none = {x.town(0, 0), x.till(0, 0), x.state(0, 0, 0, 0), x.court(0, 0, false), x.settled(0), x.ruin(0, 0),
            x.borrow(0, 0, 1, -1), x.lenders(0, -1), x.talk(0, 0, 5, 5, false), x.talk(0, 0, 5, 5, true), x.drawn(0, 1, 1, 0),
            x.chain(0, -1), x.relief(0, 0), x.party(0, 0, false), x.tables(0, -1), x.hour(0, -1), x.meet(0, false, true),
            x.guest(0, 0, true), x.share(0, 0, 0, 1, true), x.fewest(0, 0, false)};
        for (int i = 0; i < none.length; i++) {
            Check.due("NONE, " + i, none[i], -1);
        }
        long[] two = {x.deed(0, -1, 0), x.rota(0, false), x.rota(0, true), x.fact(0, -1, 0), x.fits(0, 0, 0), x.ring(0, 0),
            x.ring(0, 10), x.after(0, 0, 3)};
        for (int i = 0; i < two.length; i++) {
            Check.due("-2, " + i, two[i], -2);
        }
        long[] many = {x.net(0, 0), x.choice(0, 0, false), x.choice(0, 0, true), x.wealth(0, 0)};
        for (int i = 0; i < many.length; i++) {
            Check.due("-999, " + i, many[i], -999);
        }
        Check.due("GROWN is of no TOWN", x.grown(7, 0, 10), 8);
    }

    private static void feedComesBehind() {
        Check.says("Promise 2", "twenty bytes come behind it, of each number the highest first: how many it has.");
        KeptCompany x = new KeptCompany();
        Check.due("the first twenty", Check.feedTwenty(x, "person 3 45;person 6"), 20);
        Check.due("the next twenty", Check.feedTwenty(x, " 78;hate 0 1;"), 40);
        Check.due("text", x.text(0, -1), 0);
        Check.due("WIT", x.town(0, 10), 3);
        Check.due("PURSE", x.town(0, 20), 45);
        Check.due("WIT across two feeds", x.town(0, 11), 6);
        Check.due("PURSE across two feeds", x.town(0, 21), 78);
        Check.due("HATES", x.town(0, 30), 2);
        Check.due("feed behind seven", feedBehind(x, 7), 27);
        Check.due("text", x.text(1, -1), -1);
        Check.due("the eighth byte is the new one", x.fault(1), 7);
        Check.due("a byte of 128 or more", x.feed(0x686f7572, 0x3b202080, 0x20202020, 0x20202020, 0x20202020), 20);
        Check.due("text", x.text(1, -1), -1);
        Check.due("the lowest byte of the second number", x.fault(1), 7);
        Check.due("numbers below 0", x.feed(-1, -1, -1, -1, -1), 20);
        Check.due("text", x.text(1, -1), -1);
        Check.due("the first byte", x.fault(1), 0);
    }

    private static int feedBehind(KeptCompany x, int n) {
        Check.feedTwenty(x, "hour; hour;hour;hour");
        x.end(n - 2);
        Check.feedTwenty(x, "  hour;");
        x.end(n);
        return Check.feedTwenty(x, "*");
    }

    private static void feedOfAFullTape() {
        Check.says("Promise 2", "NONE, and nothing comes, if there would be more than 600.");
        KeptCompany x = new KeptCompany();
        for (int i = 1; i <= 30; i++) {
            Check.due("feed " + i, Check.feedTwenty(x, "hour;"), 20 * i);
        }
        Check.due("full", Check.feedTwenty(x, "hour;"), -1);
        Check.due("full, again", Check.feedTwenty(x, "hour;"), -1);
        Check.due("nothing came", x.end(601), -1);
        Check.due("nothing went", x.end(600), 600);
        for (int n = 599; n > 580; n--) {
            Check.due("end", x.end(n), n);
            Check.due("feed behind " + n, Check.feedTwenty(x, "*"), -1);
            Check.due("nothing came behind " + n, x.end(n + 1), -1);
        }
        Check.due("end", x.end(580), 580);
        Check.due("feed behind 580", Check.feedTwenty(x, "silent 3;"), 600);
        Check.due("text", x.text(1, -1), 0);
        Check.due("no byte of those refused is read", x.deed(0, -1, 0), 30);
        Check.due("the last is the one that came", x.deed(0, 29, 0), 4);
        Check.due("an empty tape again", Check.feedTwenty(x, "hour;"), 20);
    }

    private static void endCuts() {
        Check.says("Promise 3", "The tape has its first n bytes alone: n.");
        KeptCompany x = new KeptCompany();
        Check.due("end(0) of none", x.end(0), 0);
        Check.feedTwenty(x, "hour;silent 1;talks1");
        Check.due("all", x.end(20), 20);
        Check.due("one less", x.end(19), 19);
        Check.due("what was cut is gone", x.end(20), -1);
        Check.due("end(14)", x.end(14), 14);
        Check.due("end(14) twice", x.end(14), 14);
        Check.due("text", x.text(1, -1), 0);
        Check.due("DEEDS of the first 14", x.deed(0, -1, 0), 2);
        Check.feedTwenty(x, "hour;silent 1;talks1");
        Check.due("end(0)", x.end(0), 0);
        Check.due("nothing is left", x.end(1), -1);
        Check.due("text of nothing", x.text(1, -1), 1);
        Check.due("DEEDS of nothing", x.deed(1, -1, 0), 0);
    }

    private static void endRefused() {
        Check.says("Promise 3", "NONE if it has not so many, or n is below 0.");
        KeptCompany x = new KeptCompany();
        Check.dueOfEach("end of an empty tape", new int[] {MIN, -2, -1, 1, 2, 600, 601, MAX}, x::end, -1);
        Check.feedTwenty(x, "hour;hour;hour;hour;");
        Check.dueOfEach("end of twenty", new int[] {MIN, -21, -1, 21, 22, 600, 601, MAX}, x::end, -1);
        Check.due("nothing was cut", x.end(20), 20);
        Check.due("text", x.text(1, -1), 0);
        Check.due("DEEDS", x.deed(0, -1, 0), 4);
    }

    private static void textTakesTheTape() {
        Check.says("Promise 4", "The tape is taken (and is empty then) as a text of a sort");
        KeptCompany x = new KeptCompany();
        Check.due("a text", Check.tell(x, 0, -1, "person 1 2;"), 0);
        Check.due("empty behind a text", x.end(1), -1);
        Check.due("a FAULT", Check.tell(x, 0, -1, "person 1 2"), -1);
        Check.due("empty behind a FAULT", x.end(1), -1);
        Check.due("no such sort", Check.tell(x, 3, -1, "person 1 2"), -2);
        Check.due("empty behind no such sort", x.end(1), -1);
        Check.due("an empty tape is an empty text", x.text(0, 0), 0);
        Check.due("PEOPLE", x.town(0, 0), 0);
        Check.due("what comes behind is at its beginning", Check.feedTwenty(x, "*"), 20);
        Check.due("a FAULT", x.text(0, 0), -1);
        Check.due("at its beginning", x.fault(1), 0);
    }

    private static void textNumbers() {
        Check.says("Promise 4", "a further one (at NONE), or in the place of one: its number.");
        for (int sort = 0; sort < 3; sort++) {
            KeptCompany x = new KeptCompany();
            Check.due("the first", Check.tell(x, sort, -1, ""), 0);
            Check.due("in the place of the first", Check.tell(x, sort, 0, ""), 0);
            Check.due("there is one", x.count(sort), 1);
            Check.due("the second", Check.tell(x, sort, -1, ""), 1);
            Check.due("in the place of the second", Check.tell(x, sort, 1, ""), 1);
            Check.due("in the place of the first", Check.tell(x, sort, 0, ""), 0);
            Check.due("there are two", x.count(sort), 2);
            Check.due("none of the next sort", x.count((sort + 1) % 3), 0);
            Check.due("none of the other sort", x.count((sort + 2) % 3), 0);
        }
    }

    /** Nothing of the one that was there is left. */
    private static void textInThePlace() {
        Check.says("Promise 4", "or in the place of one");
        KeptCompany x = Check.with(Check.FOUR);
        Check.due("a second TOWN", Check.tell(x, 0, -1, "person 7 7;"), 1);
        Check.due("in its place", Check.tell(x, 0, 0, "person 1 2;person 3 4;"), 0);
        Check.due("PEOPLE", x.town(0, 0), 2);
        Check.due("WIT", x.town(0, 11), 3);
        Check.due("nobody HATES", x.town(0, 30), 0);
        Check.due("nothing is OWED", x.town(0, 101), 0);
        Check.due("no third PERSON", x.town(0, 12), -1);
        Check.due("the other TOWN stays", x.town(1, 10), 7);
        Check.tell(x, 1, -1, "lend 1 2 3;hour;");
        Check.tell(x, 1, 0, "hour;");
        Check.due("DEEDS", x.deed(0, -1, 0), 1);
        Check.due("the DEED", x.deed(0, 0, 0), 6);
        Check.due("its numbers", x.deed(0, 0, 1), -1);
        Check.due("no second DEED", x.deed(0, 1, 0), -2);
        Check.tell(x, 2, -1, "apart 1 2;apart 3 4;");
        Check.tell(x, 2, 0, "together 5 0;");
        Check.due("FACTS", x.fact(0, -1, 0), 1);
        Check.due("the FACT", x.fact(0, 0, 0), 0);
        Check.due("its second PERSON", x.fact(0, 0, 2), 0);
        Check.due("no second FACT", x.fact(0, 1, 0), -2);
    }

    private static void textWithAFault() {
        Check.says("Promise 4", "NONE: a FAULT.");
        KeptCompany x = Check.with(Check.FOUR, Check.WEEK, "hour;hour;");
        Check.tell(x, 2, -1, "apart 0 1;");
        String[] spoilt = {"person 9 9;person", "silent 1;silent 9;", "together 0 1;".repeat(9)};
        for (int sort = 0; sort < 3; sort++) {
            Check.due("a further one", Check.tell(x, sort, -1, spoilt[sort]), -1);
            Check.due("its FAULT", x.fault(0), sort + 1);
            Check.due("in the place", Check.tell(x, sort, 0, spoilt[sort]), -1);
            Check.due("its FAULT", x.fault(0), sort + 1);
            Check.due("no further one is there", x.count(sort), 1);
        }
        Check.due("a PERSON not there", Check.tell(x, 0, 0, "hate 0 1;"), -1);
        Check.due("its FAULT", x.fault(0), 4);
        Check.due("the TOWN stays", x.town(0, 0), 4);
        Check.due("WIT stays", x.town(0, 10), 5);
        Check.due("who HATES stays", x.town(0, 31), 4);
        Check.due("what is OWED stays", x.town(0, 123), 30);
        Check.due("the WEEK stays", x.deed(0, -1, 0), 2);
        Check.due("its DEED stays", x.deed(0, 0, 0), 6);
        Check.due("the LOG stays", x.fact(0, -1, 0), 1);
        Check.due("its FACT stays", x.fact(0, 0, 0), 1);
    }

    private static void textRefused() {
        Check.says("Promise 4", "-2: there is none such, there are as many as may be, or no such sort");
        KeptCompany x = new KeptCompany();
        for (int sort = 0; sort < 3; sort++) {
            int one = sort;
            Check.dueOfEach("none is there", new int[] {MIN, -2, 0, 1, 2, MAX}, at -> x.text(one, at), -2);
            x.text(sort, -1);
            Check.dueOfEach("one is there", new int[] {MIN, -2, 1, 2, MAX}, at -> x.text(one, at), -2);
            x.text(sort, -1);
            Check.dueOfEach("two are there", new int[] {MIN, -2, -1, 2, 3, MAX}, at -> x.text(one, at), -2);
            Check.due("two are there", x.count(sort), 2);
        }
        Check.dueOfEach("no such sort, a further one", NO_SORTS, sort -> x.text(sort, -1), -2);
        Check.dueOfEach("no such sort, in the place", NO_SORTS, sort -> x.text(sort, 0), -2);
        Check.says("Promise 4", "(the tape is empty then, too; no text is read, FAULT 0)");
        refusedWithoutAFault(x, 0, -1);
        refusedWithoutAFault(x, 1, 2);
        refusedWithoutAFault(x, 2, -2);
        refusedWithoutAFault(x, 3, 0);
        refusedWithoutAFault(x, -1, -1);
    }

    private static void refusedWithoutAFault(KeptCompany x, int sort, int at) {
        Check.due("a FAULT before", Check.tell(x, 0, 0, "hate 0 0;"), -1);
        Check.due("a FAULT before", x.fault(0), 2);
        Check.due("refused", Check.tell(x, sort, at, "hate 0 0;*"), -2);
        Check.due("the tape is empty", x.end(1), -1);
        Check.due("FAULT 0", x.fault(0), 0);
        Check.due("no place", x.fault(1), -1);
    }

    private static void faults() {
        Check.says("Promise 5", "Of the latest text(), what 0: the FAULT, 0 without, 1: its place, NONE without.");
        KeptCompany x = new KeptCompany();
        Check.due("no text yet", x.fault(0), 0);
        Check.due("no text yet, place", x.fault(1), -1);
        x.text(0, -1);
        Check.due("an empty text", x.fault(0), 0);
        Check.due("an empty text, place", x.fault(1), -1);
        Check.tell(x, 0, 0, "*");
        Check.due("place 0", x.fault(1), 0);
        Check.feed(x, "hour;");
        x.end(2);
        Check.due("feed and end are no text()", x.fault(0), 1);
        Check.due("feed and end are no text(), place", x.fault(1), 0);
        Check.tell(x, 1, -1, "hour;");
        Check.due("the latest has none", x.fault(0), 0);
        Check.due("the latest has none, place", x.fault(1), -1);
        Check.says("Promise 5", "NONE for another what.");
        Check.tell(x, 0, 0, "hate 0 0;");
        Check.dueOfEach("fault", new int[] {MIN, -2, -1, 2, 3, 7, MAX}, x::fault, -1);
    }

    private static void counts() {
        Check.says("Promise 35", "-2 for another one.");
        KeptCompany x = new KeptCompany();
        Check.dueOfEach("count", NO_SORTS, x::count, -2);
        Check.says("Promise 35", "How many there are of a sort.");
        Check.tell(x, 1, -1, "");
        Check.tell(x, 2, -1, "");
        Check.tell(x, 2, -1, "");
        Check.dueRow("count", x::count, 0, 1, 2);
        Check.tell(x, 2, -1, "");
        Check.tell(x, 1, -1, "*");
        Check.tell(x, 2, 0, "apart 0 1;");
        Check.dueRow("refused, a FAULT and in the place", x::count, 0, 1, 2);
    }

    private static void images() {
        Check.says("Promise 36", "Image k (0 .. 2) is all that is told ... as it is now: true; false for another k.");
        KeptCompany x = new KeptCompany();
        Check.dueOfEach("image", NO_IMAGES, k -> x.image(k) ? 1 : 0, 0);
        Check.dueOfEach("there is none", new int[] {0, 1, 2}, k -> x.again(k) ? 1 : 0, 0);
        for (int k = 0; k < 3; k++) {
            Check.tell(x, 0, k == 0 ? -1 : 0, "person " + k + " 0;");
            Check.due("image " + k, x.image(k), true);
        }
        Check.dueOfEach("image", NO_IMAGES, k -> x.image(k) ? 1 : 0, 0);
        for (int k = 0; k < 3; k++) {
            Check.due("again " + k, x.again(k), true);
            Check.due("WIT as image " + k + " has it", x.town(0, 10), k);
        }
        Check.tell(x, 0, 0, "person 9 0;");
        Check.due("image 1 anew", x.image(1), true);
        Check.due("again 0", x.again(0), true);
        Check.due("image 0 stays", x.town(0, 10), 0);
        Check.due("again 1", x.again(1), true);
        Check.due("image 1 is the new one", x.town(0, 10), 9);
    }

    /** A full object, two of each sort and a full tape, all other when the image comes again. */
    private static void imagesKeepAll() {
        Check.says("Promise 36", "(the tape, the FAULT, too)");
        KeptCompany x = new KeptCompany();
        for (int at = 0; at < 2; at++) {
            Check.tell(x, 0, -1, "person " + at + " 1;person 4 4;hate 0 1;owes 0 1 " + (7 + at) + ";");
            Check.tell(x, 1, -1, "hour;lend 0 1 " + (3 + at) + ";");
            Check.tell(x, 2, -1, "apart 0 " + (1 + at) + ";");
        }
        Check.tell(x, 0, 0, "person 9 9;hate 1 1;");
        Check.feed(x, "hour;               ".repeat(29) + "silent 2;silent 3;  ");
        Check.due("image", x.image(2), true);
        for (int sort = 0; sort < 3; sort++) {
            Check.tell(x, sort, 0, "");
            Check.tell(x, sort, 1, "");
        }
        Check.feed(x, "*".repeat(600));
        Check.due("again", x.again(2), true);
        Check.due("FAULT", x.fault(0), 2);
        Check.due("its place", x.fault(1), 18);
        Check.due("a full tape", x.feed(0, 0, 0, 0, 0), -1);
        for (int at = 0; at < 2; at++) {
            Check.due("WIT", x.town(at, 10), at);
            Check.due("HATES", x.town(at, 30), 2);
            Check.due("OWES", x.town(at, 101), 7 + at);
            Check.due("DEEDS", x.deed(at, -1, 0), 2);
            Check.due("a DEED's number", x.deed(at, 1, 3), 3 + at);
            Check.due("FACTS", x.fact(at, -1, 0), 1);
            Check.due("a FACT's number", x.fact(at, 0, 2), 1 + at);
        }
        Check.due("a text of the tape", x.text(1, 0), 0);
        Check.due("its DEEDS", x.deed(0, -1, 0), 31);
        Check.due("its last DEED", x.deed(0, 30, 1), 3);
    }

    private static void again() {
        Check.says("Promise 37", "All that is as image k has it: true; false if there is none such.");
        KeptCompany x = new KeptCompany();
        Check.due("image of nothing", x.image(1), true);
        Check.tell(x, 0, -1, "person 1 1;");
        Check.tell(x, 0, 0, "*");
        Check.feedTwenty(x, "hour;");
        Check.dueOfEach("none such", new int[] {MIN, -2, -1, 0, 2, 3, 4, MAX}, k -> x.again(k) ? 1 : 0, 0);
        Check.due("nothing is other then", x.count(0), 1);
        Check.due("WIT", x.town(0, 10), 1);
        Check.due("FAULT", x.fault(0), 1);
        Check.due("the tape", x.end(20), 20);
        Check.due("again", x.again(1), true);
        Check.due("no TOWN", x.count(0), 0);
        Check.due("no TOWN", x.town(0, 0), -1);
        Check.due("no FAULT", x.fault(0), 0);
        Check.due("no place", x.fault(1), -1);
        Check.due("no tape", x.end(1), -1);
        Check.due("the first TOWN", Check.tell(x, 0, -1, "person 2 2;"), 0);
        Check.due("again, twice", x.again(1), true);
        Check.due("no TOWN", x.count(0), 0);
    }

    /** What came behind an image is gone, of each sort by itself; what the image has and is gone comes again. */
    private static void againOfFewer() {
        Check.says("Promise 37", "All that is as image k has it");
        for (int sort = 0; sort < 3; sort++) {
            KeptCompany x = new KeptCompany();
            x.image(0);
            x.text(sort, -1);
            x.image(1);
            x.text(sort, -1);
            x.image(2);
            for (int k : new int[] {0, 2, 1, 0, 1, 2}) {
                Check.due("again " + k, x.again(k), true);
                for (int other = 0; other < 3; other++) {
                    Check.due("count of sort " + other + ", image " + k + " of sort " + sort, x.count(other), other == sort ? k : 0);
                }
            }
        }
    }

    /** 60 calls tell, 452 ask: the last of these is answered as the first. */
    private static void lastCalls() {
        Check.says("What it is", "An object is used for at most 512 calls after it has been made");
        KeptCompany x = new KeptCompany();
        int calls = 0;
        while (calls < 53) {
            x.feed(0x20202020, 0x20202020, 0x20202020, 0x20202020, 0x20202020);
            calls++;
        }
        x.end(0);
        Check.feedTwenty(x, "person 5 3;person 9 ");
        Check.feedTwenty(x, "1;owes 0 1 2;owes 1 ");
        Check.feedTwenty(x, "0 30;hate 0 1;");
        x.text(0, -1);
        x.text(2, -1);
        x.image(0);
        for (calls = 60; calls < 512; calls += 4) {
            Check.due("lenders, call " + (calls + 1), x.lenders(0, -1), 9);
            Check.due("fits, call " + (calls + 2), x.fits(0, 0, 11), 101);
            Check.due("again, call " + (calls + 3), x.again(0), true);
            Check.due("choice, call " + (calls + 4), x.choice(0, 2, false), 4);
        }
        Check.due("calls", calls, 512);
    }
}
