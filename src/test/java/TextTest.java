/** Promises 1 to 5, 35, 36, 37: the tape, texts, FAULTS, counts, images. */
public final class TextTest {
    public static void main(String[] args) {
        newObject();
        tape();
        texts();
        grammarFaults();
        numberFaults();
        tooManyFaults();
        missingPersonFaults();
        firstFaultByPlace();
        images();
        Check.finish("TextTest");
    }

    private static void newObject() {
        KeptCompany x = new KeptCompany();
        for (int sort = 0; sort < 3; sort++) {
            Check.due("new count", x.count(sort), 0);
        }
        Check.due("count(-1)", x.count(-1), -2);
        Check.due("count(3)", x.count(3), -2);
        Check.due("new fault(0)", x.fault(0), 0);
        Check.due("new fault(1)", x.fault(1), -1);
        Check.due("new fault(2)", x.fault(2), -1);
        Check.due("new fault(-1)", x.fault(-1), -1);
        Check.due("new end(0)", x.end(0), 0);
        Check.due("new end(1)", x.end(1), -1);
        Check.due("new town", x.town(0, 0), -1);
        Check.due("new deed", x.deed(0, -1, 0), -2);
        Check.due("new fact", x.fact(0, -1, 0), -2);
        for (int k = -1; k < 4; k++) {
            Check.due("new again", x.again(k), false);
        }
    }

    private static void tape() {
        KeptCompany x = new KeptCompany();
        for (int i = 1; i <= 30; i++) {
            Check.due("feed", x.feed(0, 1, 2, 3, 4), 20 * i);
        }
        Check.due("feed beyond 600", x.feed(0, 1, 2, 3, 4), -1);
        Check.due("end(601)", x.end(601), -1);
        Check.due("end(-1)", x.end(-1), -1);
        Check.due("end(600)", x.end(600), 600);
        Check.due("end(581)", x.end(581), 581);
        Check.due("feed to 601", x.feed(0, 1, 2, 3, 4), -1);
        Check.due("end(580)", x.end(580), 580);
        Check.due("end(581) of 580", x.end(581), -1);
        Check.due("feed to 600", x.feed(0, 1, 2, 3, 4), 600);
        x = new KeptCompany();
        Check.due("feed highest first", x.feed(0x68617465, 0x20302031, 0x3b706572, 0x736f6e20, 0x31203b20), 20);
        Check.due("text", x.text(0, -1), -1);
        Check.due("place", x.fault(1), 18);
    }

    private static void texts() {
        KeptCompany x = new KeptCompany();
        for (int sort = 0; sort < 3; sort++) {
            Check.due("empty text", Check.tell(x, sort, -1, ""), 0);
            Check.due("at 1 of 1", Check.tell(x, sort, 1, ""), -2);
            Check.due("at -2", Check.tell(x, sort, -2, ""), -2);
            Check.due("blank text", Check.tell(x, sort, -1, " \n "), 1);
            Check.due("a third", Check.tell(x, sort, -1, ""), -2);
            Check.due("count", x.count(sort), 2);
        }
        Check.due("sort -1", Check.tell(x, -1, -1, "hate"), -2);
        Check.due("fault of no text", x.fault(0), 0);
        Check.due("tape is empty", x.end(1), -1);
        Check.due("sort 3", Check.tell(x, 3, 0, "hate"), -2);
        Check.due("a FAULT", Check.tell(x, 0, 0, "person 1 2;hate"), -1);
        Check.due("FAULT", x.fault(0), 1);
        Check.due("place", x.fault(1), 15);
        Check.due("tape is empty behind a FAULT", x.end(1), -1);
        Check.due("nothing is changed by a FAULT", x.town(0, 0), 0);
        Check.due("a FAULT goes by no text", Check.tell(x, 0, 2, "person 1 2;"), -2);
        Check.due("FAULT", x.fault(0), 0);
        Check.due("place", x.fault(1), -1);
        Check.due("in the place", Check.tell(x, 0, 1, "person 1 2;"), 1);
        Check.due("PEOPLE of 1", x.town(1, 0), 1);
        Check.due("PEOPLE of 0", x.town(0, 0), 0);
        Check.due("in the place", Check.tell(x, 1, 0, "hour;hour;"), 0);
        Check.due("DEEDS", x.deed(0, -1, 0), 2);
        Check.due("in the place", Check.tell(x, 2, 0, "apart 0 1;"), 0);
        Check.due("FACTS", x.fact(0, -1, 0), 1);
        Check.due("DEEDS are fewer again", Check.tell(x, 1, 0, "silent 3;"), 0);
        Check.due("DEEDS", x.deed(0, -1, 0), 1);
    }

    private static void grammarFaults() {
        Check.fault(0, "person1 2;", 0, -1);
        Check.fault(0, "\nperson 01 02 ;;", 1, 15);
        Check.fault(0, "person 1 2", 1, 10);
        Check.fault(0, "person 1 2  ", 1, 12);
        Check.fault(0, "person 1;", 1, 8);
        Check.fault(0, "person 1 2 3;", 1, 11);
        Check.fault(0, "person 1 100;", 1, 9);
        Check.fault(0, "person 100", 1, 7);
        Check.fault(0, "person 1 2;Person 1 2;", 1, 11);
        Check.fault(0, "person 1 2;persons 1 2;", 1, 11);
        Check.fault(0, "perso 1 2;", 1, 0);
        Check.fault(0, "person 1 2;sit 0 1;", 1, 11);
        Check.fault(0, "person 1,2;", 1, 8);
        Check.fault(0, "person\t1 2;", 1, 6);
        Check.fault(0, "person 1 2;" + (char) 233, 1, 11);
        Check.fault(0, "person 1 2;" + (char) 0, 1, 11);
        Check.fault(0, "person person", 1, 7);
        Check.fault(0, "1", 1, 0);
        Check.fault(0, ";", 1, 0);
        Check.fault(0, "owes 0 1;", 1, 8);
        Check.fault(1, "hour 1;", 1, 5);
        Check.fault(1, "hour;hour", 1, 9);
        Check.fault(1, "forgive 0 1;", 1, 11);
        Check.fault(1, "silent;", 1, 6);
        Check.fault(1, "silent 0 1;", 1, 9);
        Check.fault(1, "together 0 1;", 1, 0);
        Check.fault(2, "apart 0;", 1, 7);
        Check.fault(2, "apart 0 1 2;", 1, 10);
        Check.fault(2, "hour;", 1, 0);
        Check.fault(1, "hour;silent 0;sit 0 1;lend 0 1 1;pay 0 1 30;forgive 5 4 2;talks 5;", 0, -1);
        Check.fault(2, "together 0 1;apart 5 4;", 0, -1);
    }

    private static void numberFaults() {
        Check.fault(0, "person 10 0;", 2, 7);
        Check.fault(0, "person 9 99;", 0, -1);
        Check.fault(0, "hate 1 1;", 2, 7);
        Check.fault(0, "hate 6 6;", 2, 5);
        Check.fault(0, "hate 0 6;", 2, 7);
        Check.fault(0, "owes 0 0 1;", 2, 7);
        Check.fault(0, "owes 0 1 31;", 2, 9);
        Check.fault(0, "person 0 0;person 0 0;owes 0 1 30;owes 0 1 0;", 0, -1);
        Check.fault(1, "sit 0 0;", 2, 6);
        Check.fault(1, "sit 6 0;", 2, 4);
        Check.fault(1, "lend 0 1 0;", 2, 9);
        Check.fault(1, "lend 3 3 1;", 2, 7);
        Check.fault(1, "pay 0 1 31;", 2, 8);
        Check.fault(1, "forgive 0 1 0;", 2, 12);
        Check.fault(1, "silent 6;", 2, 7);
        Check.fault(1, "talks 06;", 2, 6);
        Check.fault(2, "together 0 0;", 2, 11);
        Check.fault(2, "apart 6 0;", 2, 6);
    }

    private static void tooManyFaults() {
        Check.fault(0, "person 0 0;".repeat(6), 0, -1);
        Check.fault(0, "person 0 0;".repeat(7), 3, 66);
        Check.fault(0, "person 0 0;".repeat(6) + "person 10 0;", 3, 66);
        Check.fault(0, "person 0 0;".repeat(5) + "person 10 0;person 0 0;", 2, 62);
        Check.fault(1, "hour;".repeat(40), 0, -1);
        Check.fault(1, "hour;".repeat(41), 3, 200);
        Check.fault(1, "hour;".repeat(40) + " sit 6 6;", 3, 201);
        Check.fault(2, "apart 0 1;".repeat(8), 0, -1);
        Check.fault(2, "apart 0 1;".repeat(9), 3, 80);
        Check.fault(2, "apart 0 1;".repeat(9) + "apart 0", 1, 97);
    }

    private static void missingPersonFaults() {
        Check.fault(0, "person 0 0;hate 0 1;", 4, 20);
        Check.fault(0, "hate 0 1;person 0 0;person 0 0;  ", 0, -1);
        Check.fault(0, "person 0 0;owes 1 0 0; ", 4, 23);
        Check.fault(0, "owes 0 5 0;", 4, 11);
        Check.fault(0, "hate 0 1;hate 2 2;", 2, 16);
    }

    private static void firstFaultByPlace() {
        Check.fault(0, "hate 1 1;hate 0 9;person", 1, 24);
        Check.fault(0, "hate 0 9;hate 1 1;", 2, 7);
        Check.fault(1, "sit 0 9;" + "hour;".repeat(41), 2, 6);
        Check.fault(1, "hour;".repeat(41) + "sit 0 9;", 3, 200);
    }

    private static void images() {
        KeptCompany x = new KeptCompany();
        Check.due("image(-1)", x.image(-1), false);
        Check.due("image(3)", x.image(3), false);
        Check.due("image(2)", x.image(2), true);
        Check.tell(x, 0, -1, "person 1 2;");
        Check.tell(x, 1, -1, "hour;");
        Check.tell(x, 2, -1, "apart 0 1;");
        Check.tell(x, 0, -1, "hate 0 0;");
        Check.feed(x, "person 3 4;person 5 6;");
        Check.due("image(0)", x.image(0), true);
        Check.due("text", x.text(0, 0), 0);
        Check.due("PEOPLE", x.town(0, 0), 2);
        Check.due("text", Check.tell(x, 1, 0, ""), 0);
        Check.due("text", Check.tell(x, 2, 0, ""), 0);
        Check.due("again(1)", x.again(1), false);
        Check.due("PEOPLE", x.town(0, 0), 2);
        Check.due("again(0)", x.again(0), true);
        Check.due("FAULT is back", x.fault(0), 2);
        Check.due("its place is back", x.fault(1), 7);
        Check.due("PEOPLE", x.town(0, 0), 1);
        Check.due("PURSE", x.town(0, 20), 2);
        Check.due("DEEDS", x.deed(0, -1, 0), 1);
        Check.due("FACTS", x.fact(0, -1, 0), 1);
        Check.due("the tape is back", x.end(22), 22);
        Check.due("not longer", x.end(23), -1);
        Check.due("a text of the tape", x.text(0, -1), 1);
        Check.due("WIT", x.town(1, 11), 5);
        Check.due("again(2)", x.again(2), true);
        Check.due("count", x.count(0), 0);
        Check.due("again(0) stays", x.again(0), true);
        Check.due("count", x.count(0), 1);
        Check.tell(x, 0, 0, "person 7 7;");
        Check.due("image(0) anew", x.image(0), true);
        Check.tell(x, 0, 0, "");
        Check.due("again(0)", x.again(0), true);
        Check.due("WIT", x.town(0, 10), 7);
    }
}
