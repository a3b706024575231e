import java.util.Random;
import java.util.regex.Matcher;
import java.util.regex.Pattern;

/** Promises 4 and 5: FAULTS of many spoilt texts, held against a reader by patterns. */
public final class FaultModelTest {
    private static final Pattern TOKEN = Pattern.compile("[a-z]+|[0-9]+|;|[^a-z0-9; \n]");
    private static final String[] WORDS = {"person", "hate", "owes", "sit", "lend", "pay", "forgive", "silent", "talks",
        "hour", "together", "apart"};
    private static final int[] NUMBERS = {2, 2, 3, 2, 3, 3, 3, 1, 1, 0, 2, 2};
    private static final int[] SORTS = {0, 0, 0, 1, 1, 1, 1, 1, 1, 1, 2, 2};
    private static final int[] MOST = {6, 40, 8};

    public static void main(String[] args) {
        Random random = new Random(7);
        int[] seen = new int[5];
        for (int i = 0; i < 40000; i++) {
            int sort = random.nextInt(3);
            String text = spoilt(random, told(random, sort));
            text = text.substring(0, Math.min(600, text.length()));
            int[] due = faultOf(sort, text);
            seen[due[0]]++;
            KeptCompany x = new KeptCompany();
            Check.due("text of " + sort + ": " + text, Check.tell(x, sort, -1, text), due[0] == 0 ? 0 : -1);
            Check.due("FAULT of " + sort + ": " + text, x.fault(0), due[0]);
            Check.due("place in " + sort + ": " + text, x.fault(1), due[1]);
        }
        for (int what = 0; what < 5; what++) {
            Check.due("FAULT " + what + " was seen often", seen[what] > 500, true);
        }
        Check.finish("FaultModelTest");
    }

    private static String told(Random random, int sort) {
        StringBuilder text = new StringBuilder();
        int lines = random.nextInt(random.nextInt(3) == 0 ? 2 * MOST[sort] : 4);
        int limit = random.nextInt(4) == 0 ? 7 : 6;
        for (int line = 0; line < lines; line++) {
            int word = random.nextInt(WORDS.length);
            if (SORTS[word] != sort) {
                line--;
                continue;
            }
            word = sort == 0 && random.nextBoolean() ? 0 : word;
            text.append(random.nextInt(9) == 0 ? " \n" : "").append(WORDS[word]);
            int a = random.nextInt(limit);
            int b = (a + (random.nextInt(20) == 0 ? 0 : 1 + random.nextInt(limit - 1))) % limit;
            int[] numbers = {a, b, (sort == 0 ? 0 : 1) + random.nextInt(random.nextInt(20) == 0 ? 40 : 30)};
            for (int i = 0; i < NUMBERS[word]; i++) {
                text.append(random.nextInt(9) == 0 && i == 0 ? "" : " ").append(numbers[i]);
            }
            text.append(random.nextInt(9) == 0 ? " ;" : ";");
        }
        return text.toString();
    }

    private static String spoilt(Random random, String text) {
        StringBuilder all = new StringBuilder(text);
        int many = random.nextInt(3) == 0 ? 1 + random.nextInt(2) : 0;
        String bytes = "09 ;\nazs" + (char) 200 + "A/:`{" + (char) 0 + (char) 127 + (char) 255;
        for (int i = 0; i < many && all.length() > 0; i++) {
            int at = random.nextInt(all.length());
            switch (random.nextInt(4)) {
                case 0:
                    all.deleteCharAt(at);
                    break;
                case 1:
                    all.insert(at, bytes.charAt(random.nextInt(bytes.length())));
                    break;
                case 2:
                    all.setCharAt(at, bytes.charAt(random.nextInt(bytes.length())));
                    break;
                default:
                    all.setLength(at);
            }
        }
        return all.toString();
    }

    /** Once for the grammar alone, then for the numbers, then for who is missing. */
    private static int[] faultOf(int sort, String text) {
        int bad = grammarFault(sort, text);
        if (bad >= 0) {
            return new int[] {1, bad};
        }
        int many = 0;
        int highest = -1;
        int people = 0;
        Matcher lines = Pattern.compile("([a-z]+)\\s*([^;]*);").matcher(text);
        while (lines.find()) {
            String word = lines.group(1);
            boolean person = word.equals("person");
            people += person ? 1 : 0;
            many += sort > 0 || person ? 1 : 0;
            if (many > MOST[sort] && (sort > 0 || person)) {
                return new int[] {3, lines.start()};
            }
            Matcher numbers = Pattern.compile("[0-9]+").matcher(lines.group(2));
            int before = -1;
            for (int i = 0; numbers.find(); i++) {
                int n = Integer.parseInt(numbers.group());
                boolean can = person ? i == 1 || n < 10 : i < 2 ? n < 6 && n != before : n < 31 && (sort == 0 || n > 0);
                if (!can) {
                    return new int[] {2, lines.start(2) + numbers.start()};
                }
                highest = person || i > 1 ? highest : Math.max(highest, n);
                before = i == 0 ? n : -1;
            }
        }
        return sort == 0 && highest >= people ? new int[] {4, text.length()} : new int[] {0, -1};
    }

    private static int grammarFault(int sort, String text) {
        Matcher tokens = TOKEN.matcher(text);
        int numbers = -1;
        while (tokens.find()) {
            String token = tokens.group();
            if (numbers < 0) {
                for (int word = 0; word < WORDS.length; word++) {
                    numbers = WORDS[word].equals(token) && SORTS[word] == sort ? NUMBERS[word] : numbers;
                }
                if (numbers < 0) {
                    return tokens.start();
                }
            } else if (numbers > 0) {
                if (!token.matches("[0-9]{1,2}")) {
                    return tokens.start();
                }
                numbers--;
            } else if (!token.equals(";")) {
                return tokens.start();
            } else {
                numbers = -1;
            }
        }
        return numbers < 0 ? -1 : text.length();
    }
}
