/** Counts answers that are not as due, and tells texts to an object. */
final class Check {
    static final int TOWN = 0;
    static final int WEEK = 1;
    static final int LOG = 2;

    /** A TOWN, and WEEKS and a LOG for it, whose answers can be worked out by hand. */
    static final String FOUR = "person 5 20;person 9 50;person 2 10;person 5 20;hate 1 2;hate 0 3;"
        + "owes 0 1 5;owes 0 2 4;owes 1 0 3;owes 2 3 30;owes 3 1 2;";

    private static int right = 0;
    private static int wrong = 0;

    private Check() {
    }

    static void due(String call, long got, long want) {
        if (got == want) {
            right++;
        } else {
            wrong++;
            if (wrong <= 50) {
                System.out.println(call + " answered " + got + ", due is " + want);
            }
        }
    }

    static void due(String call, boolean got, boolean want) {
        due(call, got ? 1 : 0, want ? 1 : 0);
    }

    static void feed(KeptCompany x, String text) {
        int before = x.end(0);
        for (int i = 0; i < text.length(); i += 20) {
            int[] fours = new int[5];
            for (int j = 0; j < 20; j++) {
                int b = i + j < text.length() ? text.charAt(i + j) & 255 : 32;
                fours[j / 4] = fours[j / 4] << 8 | b;
            }
            x.feed(fours[0], fours[1], fours[2], fours[3], fours[4]);
        }
        due("feeding " + text, x.end(before + text.length()), text.length());
    }

    static int tell(KeptCompany x, int sort, int at, String text) {
        feed(x, text);
        return x.text(sort, at);
    }

    static KeptCompany with(String town) {
        KeptCompany x = new KeptCompany();
        due("town " + town, tell(x, TOWN, -1, town), 0);
        return x;
    }

    static KeptCompany with(String town, int sort, String other) {
        KeptCompany x = with(town);
        due("text " + other, tell(x, sort, -1, other), 0);
        return x;
    }

    static void finish(String name) {
        System.out.println(name + ": " + right + " answers right, " + wrong + " wrong");
        if (wrong > 0 || right == 0) {
            System.exit(1);
        }
    }
}
