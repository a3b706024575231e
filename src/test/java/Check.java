import java.util.function.IntToLongFunction;

/** Counts answers that are not as due, and tells texts to an object. */
final class Check {
    static final int TOWN = 0;
    static final int WEEK = 1;
    static final int LOG = 2;

    /** A TOWN, and WEEKS and a LOG for it, whose answers can be worked out by hand. */
    static final String FOUR = "person 5 20;person 9 50;person 2 10;person 5 20;hate 1 2;hate 0 3;"
        + "owes 0 1 5;owes 0 2 4;owes 1 0 3;owes 2 3 30;owes 3 1 2;";

    /** What is no number of a TOWN, WEEK or LOG, if one is told. */
    static final int[] NOT_ONE = {Integer.MIN_VALUE, -1000, -2, -1, 1, 2, 3, 1000, Integer.MAX_VALUE};

    /** What is no PERSON of FOUR. */
    static final int[] NOT_FOUR = {Integer.MIN_VALUE, -2, -1, 4, 5, 6, 7, 10, Integer.MAX_VALUE};

    private static String sentence = "";
    private static int askedOfSentence = 1;
    private static int right = 0;
    private static int wrong = 0;

    private Check() {
    }

    /** The answers that follow hold this sentence of the document; a sentence without an answer is wrong. */
    static void says(String where, String words) {
        sentenceEnds();
        sentence = where + ": " + words + "\n    ";
        askedOfSentence = 0;
    }

    private static void sentenceEnds() {
        if (askedOfSentence == 0) {
            wrong++;
            System.out.println(sentence + "has no test");
        }
    }

    static void due(String call, long got, long want) {
        askedOfSentence++;
        if (got == want) {
            right++;
        } else {
            wrong++;
            if (wrong <= 50) {
                System.out.println(sentence + call + " answered " + got + ", due is " + want);
            }
        }
    }

    static void due(String call, boolean got, boolean want) {
        due(call, got ? 1 : 0, want ? 1 : 0);
    }

    /** One answer is due for each of these numbers. */
    static void dueOfEach(String call, int[] numbers, IntToLongFunction ask, long want) {
        for (int number : numbers) {
            due(call + " of " + number, ask.applyAsLong(number), want);
        }
    }

    /** For 0, 1, 2 and so on these answers are due. */
    static void dueRow(String call, IntToLongFunction ask, long... want) {
        for (int k = 0; k < want.length; k++) {
            due(call + " of " + k, ask.applyAsLong(k), want[k]);
        }
    }

    static void feed(KeptCompany x, String text) {
        int before = x.end(0);
        for (int i = 0; i < text.length(); i += 20) {
            feedTwenty(x, text.substring(i, Math.min(i + 20, text.length())));
        }
        due("feeding " + text, x.end(before + text.length()), text.length());
    }

    /** Up to twenty bytes, and blanks behind them. */
    static int feedTwenty(KeptCompany x, String text) {
        int[] fours = new int[5];
        for (int j = 0; j < 20; j++) {
            int b = j < text.length() ? text.charAt(j) & 255 : 32;
            fours[j / 4] = fours[j / 4] << 8 | b;
        }
        return x.feed(fours[0], fours[1], fours[2], fours[3], fours[4]);
    }

    static int tell(KeptCompany x, int sort, int at, String text) {
        feed(x, text);
        return x.text(sort, at);
    }

    /** A text told to a new object has this FAULT at this place (0, -1: none). */
    static void fault(int sort, String text, int what, int place) {
        KeptCompany x = new KeptCompany();
        due("text " + text, tell(x, sort, -1, text), what == 0 ? 0 : -1);
        due("FAULT of " + text, x.fault(0), what);
        due("its place in " + text, x.fault(1), place);
        due("count behind " + text, x.count(sort), what == 0 ? 1 : 0);
    }

    static KeptCompany with(String town) {
        KeptCompany x = new KeptCompany();
        due("town " + town, tell(x, TOWN, -1, town), 0);
        return x;
    }

    static KeptCompany with(String town, int sort, String other) {
        KeptCompany x = with(town);
        due("text " + other, tell(x, sort, -1, other), 0);
        return x;
    }

    static void finish(String name) {
        sentenceEnds();
        System.out.println(name + ": " + right + " answers right, " + wrong + " wrong");
        if (wrong > 0 || right == 0) {
            System.exit(1);
        }
    }
}
