import java.util.Arrays;

/** Towns, weeks and logs told as texts, and what can be asked of them: see README.md. */
public final class KeptCompany {
    public static final int NONE = -1;

    private static final int NO_SUCH = -2;
    private static final int NO_SUM = -999;

    private static final int TOWN = 0;
    private static final int WEEK = 1;
    private static final int LOG = 2;

    private static final int MOST_BYTES = 600;
    private static final int MOST_OF_A_SORT = 2;
    private static final int MOST_IMAGES = 3;
    private static final int MOST_PEOPLE = 6;
    private static final int MOST_DEEDS = 40;
    private static final int MOST_FACTS = 8;
    private static final int MOST_OWED = 99;
    private static final int MOST_PURSE = 99;
    private static final int MOST_CHOICES = 5;
    private static final int MOST_TALKS = 12;
    private static final int MOST_DRAWN = 60;
    private static final int SETS = 64;
    private static final int NOBODY = 6;

    private static final int SIT = 0;
    private static final int LEND = 1;
    private static final int PAY = 2;
    private static final int FORGIVE = 3;
    private static final int SILENT = 4;
    private static final int TALKS = 5;
    private static final int NEXT_HOUR = 6;

    private final Told told = new Told();
    private final Told[] images = new Told[MOST_IMAGES];
    private final Reader reader = new Reader(told.tape);
    private final Life life = new Life();
    private final Purses purses = new Purses();
    private final Seats seats = new Seats();
    private final Suspects suspects = new Suspects();

    public KeptCompany() {
    }

    public int feed(int a, int b, int c, int d, int e) {
        if (told.length + 20 > MOST_BYTES) {
            return NONE;
        }
        told.put(a);
        told.put(b);
        told.put(c);
        told.put(d);
        told.put(e);
        return told.length;
    }

    public int end(int n) {
        if (n < 0 || n > told.length) {
            return NONE;
        }
        told.length = n;
        return n;
    }

    public int text(int sort, int at) {
        int length = told.length;
        told.length = 0;
        told.fault = 0;
        told.place = NONE;
        if (!told.hasPlaceFor(sort, at)) {
            return NO_SUCH;
        }
        reader.read(sort, length);
        told.fault = reader.fault;
        told.place = reader.place;
        return reader.fault == 0 ? told.take(sort, at, reader) : NONE;
    }

    public int fault(int what) {
        if (what == 0) {
            return told.fault;
        }
        return what == 1 ? told.place : NONE;
    }

    public int town(int town, int what) {
        Town t = told.townAt(town);
        return t == null ? NONE : t.tell(what);
    }

    public int deed(int week, int k, int what) {
        Week w = told.weekAt(week);
        return w == null ? NO_SUCH : w.tell(k, what);
    }

    public int till(int town, int week) {
        Town t = told.townAt(town);
        Week w = told.weekAt(week);
        return t == null || w == null ? NONE : life.live(t, w, w.deeds);
    }

    public int state(int town, int week, int n, int what) {
        Town t = told.townAt(town);
        Week w = told.weekAt(week);
        if (t == null || w == null || n < 0 || n > w.deeds || life.live(t, w, n) < n) {
            return NONE;
        }
        return life.tell(what);
    }

    public int court(int town, int person, boolean who) {
        Town t = told.townAt(town);
        return t == null || !t.has(person) ? NONE : Debts.hardestCourt(t, person, who);
    }

    public int rota(int town, boolean who) {
        Town t = told.townAt(town);
        return t == null ? NO_SUCH : Debts.longestRota(t, who);
    }

    public int net(int town, int person) {
        Town t = told.townAt(town);
        return t == null || !t.has(person) ? NO_SUM : t.netOf(person);
    }

    public int settled(int town) {
        Town t = told.townAt(town);
        return t == null ? NONE : purses.fewestPayments(t);
    }

    public int ruin(int town, int person) {
        Town t = told.townAt(town);
        return t == null || !t.has(person) ? NONE : Debts.ruinedBy(t, person);
    }

    public int borrow(int town, int person, int n, int from) {
        Town t = told.townAt(town);
        if (t == null || !t.has(person) || n < 1 || n > 99) {
            return NONE;
        }
        return from == NONE || t.has(from) ? Purses.leastTedious(t, person, n, from) : NONE;
    }

    public int lenders(int town, int k) {
        Town t = told.townAt(town);
        return t == null || k != NONE && !t.has(k) ? NONE : purses.bestLending(t, k);
    }

    public int choice(int town, int n, boolean first) {
        Town t = told.townAt(town);
        return t == null || n < 0 || n > MOST_CHOICES ? NO_SUM : Seats.bestChoice(t, n, first);
    }

    public long talk(int town, int person, int p, int n, boolean under) {
        Town t = told.townAt(town);
        if (t == null || !t.has(person) || p < 0 || p > 10 || n < 0 || n > MOST_TALKS) {
            return NONE;
        }
        return purses.oddsOfTalk(t.owesInAll(person), p, n, under);
    }

    public int fact(int log, int k, int what) {
        Log l = told.logAt(log);
        return l == null ? NO_SUCH : l.tell(k, what);
    }

    public int fits(int town, int log, int what) {
        return suspects.find(told.townAt(town), told.logAt(log)) ? suspects.tell(what) : NO_SUCH;
    }

    public int drawn(int town, int seed, int n, int what) {
        Town t = told.townAt(town);
        if (t == null || n < 0 || n > MOST_DRAWN) {
            return NONE;
        }
        life.drift(t, seed, n);
        return life.tell(what);
    }

    public int ring(int town, int what) {
        Town t = told.townAt(town);
        if (t == null) {
            return NO_SUCH;
        }
        return what >= 5 ? Seats.tellOfPeople(t, what) : Debts.tellOfTown(t, what);
    }

    public int chain(int town, int k) {
        Town t = told.townAt(town);
        return t == null ? NONE : purses.longestChain(t, k);
    }

    public int wealth(int town, int person) {
        Town t = told.townAt(town);
        return t == null || !t.has(person) ? NO_SUM : t.wealthOf(person);
    }

    public int relief(int town, int x) {
        Town t = told.townAt(town);
        return t == null || x < 0 || x > 99 ? NONE : Debts.forgivenDownTo(t, x);
    }

    public int party(int town, int n, boolean who) {
        Town t = told.townAt(town);
        return t == null ? NONE : Seats.wittiestParty(t, n, who);
    }

    public int tables(int town, int k) {
        Town t = told.townAt(town);
        return t == null || k != NONE && !t.has(k) ? NONE : seats.fewestTables(t, k);
    }

    public int hour(int town, int k) {
        Town t = told.townAt(town);
        return t == null || k != NONE && !t.has(k) ? NONE : seats.fullestHour(t, k);
    }

    public int grown(int v, int k, int n) {
        if (v < 0 || v > 99 || k < 0 || k > 9 || n < 0 || n > 99) {
            return NONE;
        }
        int sum = v;
        for (int number = 1; number <= n; number++) {
            sum = Math.max(0, sum - k);
            if (number % 10 == 0) {
                sum = Life.onSunday(sum);
            }
        }
        return sum;
    }

    public long meet(int town, boolean owes, boolean under) {
        Town t = told.townAt(town);
        return t == null || t.people < 2 ? NONE : Odds.ofMeeting(t, owes, under);
    }

    public long guest(int town, int n, boolean under) {
        Town t = told.townAt(town);
        return t == null || t.people < 1 || n < 0 || n > 99 ? NONE : Odds.ofGuest(t, n, under);
    }

    public int after(int town, int week, int what) {
        Town t = told.townAt(town);
        Week w = told.weekAt(week);
        if (t == null || w == null) {
            return NO_SUCH;
        }
        life.live(t, w, w.deeds);
        return life.tellAfter(what);
    }

    public long share(int town, int log, int a, int b, boolean under) {
        Town t = told.townAt(town);
        if (t == null || !t.has(a) || !t.has(b) || a == b) {
            return NONE;
        }
        if (!suspects.find(t, told.logAt(log)) || suspects.size < 1) {
            return NONE;
        }
        return Odds.lowest(suspects.together(a, b), suspects.size, under);
    }

    public int fewest(int town, int log, boolean most) {
        if (!suspects.find(told.townAt(town), told.logAt(log))) {
            return NONE;
        }
        return suspects.company(most);
    }

    public int count(int sort) {
        return told.countOf(sort);
    }

    public boolean image(int k) {
        if (k < 0 || k >= MOST_IMAGES) {
            return false;
        }
        Told kept = images[k];
        if (kept == null) {
            kept = new Told();
            images[k] = kept;
        }
        kept.copy(told);
        return true;
    }

    public boolean again(int k) {
        if (k < 0 || k >= MOST_IMAGES) {
            return false;
        }
        Told kept = images[k];
        if (kept == null) {
            return false;
        }
        told.copy(kept);
        return true;
    }

    /** All that is told, and so all that an image keeps. */
    private static final class Told {
        final byte[] tape = new byte[MOST_BYTES];
        int length = 0;
        int fault = 0;
        int place = NONE;
        private final int[] counts = new int[3];
        private final Town[] towns = new Town[MOST_OF_A_SORT];
        private final Week[] weeks = new Week[MOST_OF_A_SORT];
        private final Log[] logs = new Log[MOST_OF_A_SORT];

        Told() {
            for (int i = 0; i < MOST_OF_A_SORT; i++) {
                towns[i] = new Town();
                weeks[i] = new Week();
                logs[i] = new Log();
            }
        }

        void put(int four) {
            for (int shift = 24; shift >= 0 && length < MOST_BYTES; shift -= 8) {
                tape[length] = (byte) (four >> shift);
                length++;
            }
        }

        int countOf(int sort) {
            return sort < TOWN || sort > LOG ? NO_SUCH : counts[sort];
        }

        private boolean holds(int sort, int at) {
            return at >= 0 && at < MOST_OF_A_SORT && at < counts[sort];
        }

        Town townAt(int at) {
            return holds(TOWN, at) ? towns[at] : null;
        }

        Week weekAt(int at) {
            return holds(WEEK, at) ? weeks[at] : null;
        }

        Log logAt(int at) {
            return holds(LOG, at) ? logs[at] : null;
        }

        boolean hasPlaceFor(int sort, int at) {
            if (sort < TOWN || sort > LOG) {
                return false;
            }
            return at == NONE ? counts[sort] < MOST_OF_A_SORT : holds(sort, at);
        }

        int take(int sort, int at, Reader from) {
            if (!hasPlaceFor(sort, at)) {
                return NO_SUCH;
            }
            int to = at;
            if (at == NONE) {
                to = counts[sort];
                counts[sort]++;
            }
            if (sort == TOWN) {
                towns[to].copy(from.town);
            } else if (sort == WEEK) {
                weeks[to].copy(from.week);
            } else {
                logs[to].copy(from.log);
            }
            return to;
        }

        void copy(Told from) {
            System.arraycopy(from.tape, 0, tape, 0, from.length);
            length = from.length;
            fault = from.fault;
            place = from.place;
            System.arraycopy(from.counts, 0, counts, 0, 3);
            for (int i = 0; i < MOST_OF_A_SORT; i++) {
                towns[i].copy(from.towns[i]);
                weeks[i].copy(from.weeks[i]);
                logs[i].copy(from.logs[i]);
            }
        }
    }

    /** A TOWN as told; whoever asks it of PEOPLE looks first whether it has them. */
    private static final class Town {
        int people = 0;
        final int[] wit = new int[MOST_PEOPLE];
        final int[] purse = new int[MOST_PEOPLE];
        final int[] hated = new int[MOST_PEOPLE];
        final int[] owed = new int[MOST_PEOPLE * MOST_PEOPLE];

        void clear() {
            people = 0;
            Arrays.fill(hated, 0);
            Arrays.fill(owed, 0);
        }

        void copy(Town from) {
            people = from.people;
            System.arraycopy(from.wit, 0, wit, 0, MOST_PEOPLE);
            System.arraycopy(from.purse, 0, purse, 0, MOST_PEOPLE);
            System.arraycopy(from.hated, 0, hated, 0, MOST_PEOPLE);
            System.arraycopy(from.owed, 0, owed, 0, MOST_PEOPLE * MOST_PEOPLE);
        }

        boolean has(int person) {
            return person >= 0 && person < people;
        }

        int owes(int a, int b) {
            return owed[MOST_PEOPLE * a + b];
        }

        boolean hates(int a, int b) {
            return (hated[a] >> b & 1) != 0;
        }

        int owesInAll(int person) {
            int sum = 0;
            for (int other = 0; other < people; other++) {
                sum += owes(person, other);
            }
            return sum;
        }

        int isOwedInAll(int person) {
            int sum = 0;
            for (int other = 0; other < people; other++) {
                sum += owes(other, person);
            }
            return sum;
        }

        int netOf(int person) {
            return isOwedInAll(person) - owesInAll(person);
        }

        int wealthOf(int person) {
            return purse[person] + netOf(person);
        }

        /** Those whom a PERSON OWES something, as bits. */
        int creditorsOf(int person) {
            int bits = 0;
            for (int other = 0; other < people; other++) {
                if (owes(person, other) > 0) {
                    bits |= 1 << other;
                }
            }
            return bits;
        }

        /** Those who OWE a PERSON something, as bits. */
        int debtorsOf(int person) {
            int bits = 0;
            for (int other = 0; other < people; other++) {
                if (owes(other, person) > 0) {
                    bits |= 1 << other;
                }
            }
            return bits;
        }

        boolean allHate(int set) {
            for (int p = 0; p < people; p++) {
                if ((set >> p & 1) != 0 && (set & ~hated[p]) != 1 << p) {
                    return false;
                }
            }
            return true;
        }

        boolean noneHate(int set) {
            for (int p = 0; p < people; p++) {
                if ((set >> p & 1) != 0 && (set & hated[p]) != 0) {
                    return false;
                }
            }
            return true;
        }

        int witOf(int set) {
            int sum = 0;
            for (int p = 0; p < people; p++) {
                if ((set >> p & 1) != 0) {
                    sum += wit[p];
                }
            }
            return sum;
        }

        int tell(int what) {
            if (what == 0) {
                return people;
            }
            if (what >= 10 && what < 40) {
                int person = what % 10;
                if (!has(person)) {
                    return NONE;
                }
                if (what < 20) {
                    return wit[person];
                }
                return what < 30 ? purse[person] : hated[person];
            }
            if (what >= 100 && what < 200) {
                int a = (what - 100) / 10;
                int b = what % 10;
                return has(a) && has(b) ? owes(a, b) : NONE;
            }
            return NONE;
        }
    }

    /** A WEEK as told: of each DEED its kind and three numbers, NONE where it has fewer. */
    private static final class Week {
        int deeds = 0;
        private final int[] cells = new int[4 * MOST_DEEDS];

        void add(int kind, int[] numbers) {
            if (deeds >= MOST_DEEDS || numbers.length < 3) {
                return;
            }
            cells[4 * deeds] = kind;
            System.arraycopy(numbers, 0, cells, 4 * deeds + 1, 3);
            deeds++;
        }

        void copy(Week from) {
            deeds = from.deeds;
            System.arraycopy(from.cells, 0, cells, 0, 4 * from.deeds);
        }

        int tell(int k, int what) {
            if (k == NONE && what == 0) {
                return deeds;
            }
            if (k < 0 || k >= deeds || what < 0 || what > 3) {
                return NO_SUCH;
            }
            return cells[4 * k + what];
        }
    }

    /** A LOG as told: of each FACT whether APART, and the two. */
    private static final class Log {
        int facts = 0;
        private final int[] cells = new int[3 * MOST_FACTS];

        void add(int kind, int[] numbers) {
            if (facts >= MOST_FACTS || numbers.length < 2) {
                return;
            }
            cells[3 * facts] = kind;
            System.arraycopy(numbers, 0, cells, 3 * facts + 1, 2);
            facts++;
        }

        void copy(Log from) {
            facts = from.facts;
            System.arraycopy(from.cells, 0, cells, 0, 3 * from.facts);
        }

        int tell(int k, int what) {
            if (k == NONE && what == 0) {
                return facts;
            }
            if (k < 0 || k >= facts || what < 0 || what > 2) {
                return NO_SUCH;
            }
            return cells[3 * k + what];
        }

        /** Whether all FACTS are of PEOPLE that a TOWN has. */
        boolean isOf(Town t) {
            for (int k = 0; k < facts; k++) {
                if (!t.has(cells[3 * k + 1]) || !t.has(cells[3 * k + 2])) {
                    return false;
                }
            }
            return true;
        }

        /** Whether all FACTS are so, if just these PEOPLE (bits) are TOGETHER. */
        boolean agrees(int all) {
            for (int k = 0; k < facts; k++) {
                boolean together = (all >> cells[3 * k + 1] & all >> cells[3 * k + 2] & 1) != 0;
                if (together != (cells[3 * k] == 0)) {
                    return false;
                }
            }
            return true;
        }
    }

    /** Reads a tape as a text into a TOWN, WEEK or LOG of its own, so that a FAULT spoils nothing told. */
    private static final class Reader {
        private static final int AT_END = 0;
        private static final int WORD = 1;
        private static final int NUMBER = 2;
        private static final int SEMICOLON = 3;
        private static final int NO_TOKEN = 4;
        private static final int PERSON = 0;
        private static final int HATE = 1;
        private static final int[] NUMBERS_IN_TOWN = {2, 2, 3};
        private static final int[] NUMBERS_IN_WEEK = {2, 3, 3, 3, 1, 1, 0};

        final Town town = new Town();
        final Week week = new Week();
        final Log log = new Log();
        int fault = 0;
        int place = NONE;
        private final int[] numbers = new int[3];
        private final byte[] tape;
        private int length = 0;
        private int next = 0;
        private int start = 0;
        private int token = AT_END;
        private int value = 0;
        private int toldOf = 0;

        Reader(byte[] bytes) {
            tape = bytes;
        }

        void read(int sort, int size) {
            begin(size);
            takeToken();
            for (int line = 0; line <= MOST_BYTES && token != AT_END && fault != 1; line++) {
                readLine(sort);
            }
            if (fault == 0 && sort == TOWN && toldOf >> town.people != 0) {
                note(4, length);
            }
        }

        private void begin(int size) {
            length = Math.min(size, tape.length);
            next = 0;
            fault = 0;
            place = NONE;
            toldOf = 0;
            town.clear();
            week.deeds = 0;
            log.facts = 0;
        }

        /** The lines come in the order of their places, so that the first FAULT noted is the first by place. */
        private void note(int what, int where) {
            if (fault == 0) {
                fault = what;
                place = where;
            }
        }

        /** FAULT 1 goes before all others, wherever these are. */
        private void stop() {
            fault = 1;
            place = start;
        }

        private void readLine(int sort) {
            int form = formOf(sort);
            if (form == NONE) {
                stop();
                return;
            }
            if (isOneTooMany(sort, form)) {
                note(3, start);
            }
            Arrays.fill(numbers, NONE);
            int wanted = numbersOf(sort, form);
            for (int i = 0; i < wanted; i++) {
                takeToken();
                if (token != NUMBER) {
                    stop();
                    return;
                }
                numbers[i] = value;
                if (!canBe(sort, form, i)) {
                    note(2, start);
                }
            }
            takeToken();
            if (token != SEMICOLON) {
                stop();
                return;
            }
            if (fault == 0) {
                keepLine(sort, form);
            }
            takeToken();
        }

        private int formOf(int sort) {
            if (token != WORD) {
                return NONE;
            }
            if (sort == TOWN) {
                return formOfTown();
            }
            if (sort == WEEK) {
                return formOfWeek();
            }
            if (isWord("together")) {
                return 0;
            }
            return isWord("apart") ? 1 : NONE;
        }

        private int formOfTown() {
            if (isWord("person")) {
                return PERSON;
            }
            if (isWord("hate")) {
                return HATE;
            }
            return isWord("owes") ? 2 : NONE;
        }

        private int formOfWeek() {
            if (isWord("sit")) {
                return SIT;
            }
            if (isWord("lend")) {
                return LEND;
            }
            if (isWord("pay")) {
                return PAY;
            }
            if (isWord("forgive")) {
                return FORGIVE;
            }
            if (isWord("silent")) {
                return SILENT;
            }
            if (isWord("talks")) {
                return TALKS;
            }
            return isWord("hour") ? NEXT_HOUR : NONE;
        }

        private static int numbersOf(int sort, int form) {
            if (sort == TOWN) {
                return form >= 0 && form < NUMBERS_IN_TOWN.length ? NUMBERS_IN_TOWN[form] : 0;
            }
            if (sort == WEEK) {
                return form >= 0 && form < NUMBERS_IN_WEEK.length ? NUMBERS_IN_WEEK[form] : 0;
            }
            return 2;
        }

        private boolean isOneTooMany(int sort, int form) {
            if (sort == TOWN) {
                return form == PERSON && town.people >= MOST_PEOPLE;
            }
            return sort == WEEK ? week.deeds >= MOST_DEEDS : log.facts >= MOST_FACTS;
        }

        private boolean canBe(int sort, int form, int i) {
            if (sort == TOWN && form == PERSON) {
                return i == 1 || value <= 9;
            }
            if (i == 2) {
                return value <= 30 && (sort == TOWN || value >= 1);
            }
            return value < MOST_PEOPLE && (i == 0 || value != numbers[0]);
        }

        private void keepLine(int sort, int form) {
            if (sort == TOWN) {
                keepOfTown(form, numbers[0], numbers[1], numbers[2]);
            } else if (sort == WEEK) {
                week.add(form, numbers);
            } else {
                log.add(form, numbers);
            }
        }

        private void keepOfTown(int form, int a, int b, int sum) {
            if (form == PERSON) {
                if (town.people < MOST_PEOPLE) {
                    town.wit[town.people] = a;
                    town.purse[town.people] = b;
                    town.people++;
                }
                return;
            }
            if (a < 0 || a >= MOST_PEOPLE || b < 0 || b >= MOST_PEOPLE) {
                return;
            }
            toldOf |= 1 << a | 1 << b;
            if (form == HATE) {
                town.hated[a] |= 1 << b;
                town.hated[b] |= 1 << a;
            } else {
                town.owed[MOST_PEOPLE * a + b] = sum;
            }
        }

        private void takeToken() {
            while (next < length && (tape[next] == 10 || tape[next] == 32)) {
                next++;
            }
            start = next;
            if (next >= length) {
                token = AT_END;
            } else if (isLetter(tape[next])) {
                takeWord();
            } else if (isDigit(tape[next])) {
                takeNumber();
            } else {
                token = tape[next] == ';' ? SEMICOLON : NO_TOKEN;
                next++;
            }
        }

        private void takeWord() {
            while (next < length && isLetter(tape[next])) {
                next++;
            }
            token = WORD;
        }

        private void takeNumber() {
            value = 0;
            while (next < length && isDigit(tape[next])) {
                value = 10 * (value % 100) + tape[next] - '0';
                next++;
            }
            token = next - start > 2 ? NO_TOKEN : NUMBER;
        }

        private static boolean isLetter(int b) {
            return b >= 'a' && b <= 'z';
        }

        private static boolean isDigit(int b) {
            return b >= '0' && b <= '9';
        }

        private boolean isWord(String word) {
            if (next - start != word.length()) {
                return false;
            }
            for (int i = 0; i < word.length(); i++) {
                if (tape[start + i] != word.charAt(i)) {
                    return false;
                }
            }
            return true;
        }
    }

    /** A TOWN that lives on, deed by deed. */
    private static final class Life {
        private int people = 0;
        private final int[] hated = new int[MOST_PEOPLE];
        private final int[] purse = new int[MOST_PEOPLE];
        private final int[] owed = new int[MOST_PEOPLE * MOST_PEOPLE];
        private final int[] seat = new int[MOST_PEOPLE];
        private final int[] kept = new int[MOST_PEOPLE];
        private final int[] wasKept = new int[MOST_PEOPLE];
        private int silent = 0;
        private int clock = 0;
        private int sat = 0;
        private int done = 0;
        private int first = NONE;
        private int vain = 0;
        private int lent = 0;
        private int forgiven = 0;
        private int seed = 0;

        private void begin(Town t) {
            people = t.people;
            System.arraycopy(t.hated, 0, hated, 0, MOST_PEOPLE);
            System.arraycopy(t.purse, 0, purse, 0, MOST_PEOPLE);
            System.arraycopy(t.owed, 0, owed, 0, MOST_PEOPLE * MOST_PEOPLE);
            Arrays.fill(seat, NOBODY);
            Arrays.fill(kept, 0);
            Arrays.fill(wasKept, 0);
            silent = 0;
            clock = 0;
            sat = 0;
            done = 0;
            first = NONE;
            vain = 0;
            lent = 0;
            forgiven = 0;
        }

        /** Does the first n DEEDS, up to the first that can't be: how many were done. */
        int live(Town t, Week w, int n) {
            begin(t);
            int most = Math.min(n, w.deeds);
            while (done < most && mayDo(w.tell(done, 0), w.tell(done, 1), w.tell(done, 2), w.tell(done, 3))) {
                done++;
            }
            return done;
        }

        void drift(Town t, int x, int n) {
            begin(t);
            seed = x;
            for (int i = 0; i < n; i++) {
                int number = below(10);
                if (number >= 8) {
                    nextHour();
                } else if (people >= 2) {
                    driftOn(number);
                }
            }
        }

        private void driftOn(int number) {
            int a = below(people);
            if (number >= 6) {
                mayDo(number == 6 ? SILENT : TALKS, a, NONE, NONE);
                return;
            }
            int b = people < 2 ? NONE : (below(people - 1) + 1 + a) % people;
            if (number < 3) {
                mayDo(SIT, a, b, NONE);
                return;
            }
            int sum = 1 + below(5);
            mayDo(number == 3 ? LEND : number == 4 ? PAY : FORGIVE, a, b, sum);
        }

        private int below(int n) {
            seed = seed * 1103515245 + 12345;
            return n < 1 ? 0 : (seed >>> 16) % n;
        }

        private boolean has(int person) {
            return person >= 0 && person < people;
        }

        /** Does a DEED, if it can be; else nothing. */
        private boolean mayDo(int kind, int a, int b, int sum) {
            if (kind == NEXT_HOUR) {
                nextHour();
                return true;
            }
            if (!has(a)) {
                return false;
            }
            if (kind == SILENT) {
                silent |= 1 << a;
                return true;
            }
            if (kind == TALKS) {
                silent &= ~(1 << a);
                return true;
            }
            if (!has(b)) {
                return false;
            }
            if (kind == SIT) {
                return maySit(a, b);
            }
            if (kind == FORGIVE) {
                return mayForgive(a, b, sum);
            }
            return kind == LEND ? mayLend(a, b, sum) : mayPay(a, b, sum);
        }

        private boolean maySit(int creditor, int debtor) {
            int debt = MOST_PEOPLE * debtor + creditor;
            if (owed[debt] < 1 || seat[creditor] != NOBODY) {
                return false;
            }
            for (int other = 0; other < people; other++) {
                if (seat[other] == debtor && (hated[creditor] >> other & 1) != 0) {
                    return false;
                }
            }
            seat[creditor] = debtor;
            if (first == NONE) {
                first = done;
            }
            sat++;
            kept[creditor]++;
            wasKept[debtor]++;
            if ((silent >> debtor & 1) != 0) {
                vain++;
            } else {
                owed[debt]--;
            }
            return true;
        }

        private boolean mayLend(int lender, int other, int sum) {
            int debt = MOST_PEOPLE * other + lender;
            if (purse[lender] < sum || purse[other] + sum > MOST_PURSE || owed[debt] + sum > MOST_OWED) {
                return false;
            }
            purse[lender] -= sum;
            purse[other] += sum;
            owed[debt] += sum;
            lent += sum;
            return true;
        }

        private boolean mayPay(int payer, int other, int sum) {
            int debt = MOST_PEOPLE * payer + other;
            if (owed[debt] < sum || purse[payer] < sum || purse[other] + sum > MOST_PURSE) {
                return false;
            }
            purse[payer] -= sum;
            purse[other] += sum;
            owed[debt] -= sum;
            return true;
        }

        private boolean mayForgive(int creditor, int other, int sum) {
            int debt = MOST_PEOPLE * other + creditor;
            if (owed[debt] < sum) {
                return false;
            }
            owed[debt] -= sum;
            forgiven += sum;
            return true;
        }

        private void nextHour() {
            Arrays.fill(seat, NOBODY);
            clock++;
            if (clock % 10 == 0) {
                for (int i = 0; i < owed.length; i++) {
                    owed[i] = onSunday(owed[i]);
                }
            }
        }

        static int onSunday(int sum) {
            return sum == 0 ? 0 : Math.min(MOST_OWED, sum + 1);
        }

        int tell(int what) {
            if (what >= 10 && what < 30) {
                int person = what % 10;
                if (!has(person)) {
                    return NONE;
                }
                return what < 20 ? purse[person] : seat[person];
            }
            if (what >= 100 && what < 200) {
                int a = (what - 100) / 10;
                int b = what % 10;
                return has(a) && has(b) ? owed[MOST_PEOPLE * a + b] : NONE;
            }
            switch (what) {
                case 0:
                    return clock;
                case 1:
                    return owedInAll();
                case 2:
                    return sat;
                case 3:
                    return silent;
                case 4:
                    return sitting();
                default:
                    return NONE;
            }
        }

        private int owedInAll() {
            int sum = 0;
            for (int i = 0; i < owed.length; i++) {
                sum += owed[i];
            }
            return sum;
        }

        private int sitting() {
            int bits = 0;
            for (int p = 0; p < people; p++) {
                if (seat[p] != NOBODY) {
                    bits |= 1 << p;
                }
            }
            return bits;
        }

        int tellAfter(int what) {
            switch (what) {
                case 0:
                    return first;
                case 1:
                    return mostOften(kept);
                case 2:
                    return mostOften(wasKept);
                case 3:
                    return vain;
                case 4:
                    return lent;
                case 5:
                    return forgiven;
                case 6:
                    return clock / 10;
                case 7:
                    return free();
                default:
                    return NO_SUCH;
            }
        }

        private int mostOften(int[] times) {
            int best = NONE;
            int most = 0;
            for (int p = 0; p < people && p < times.length; p++) {
                if (times[p] > most) {
                    most = times[p];
                    best = p;
                }
            }
            return best;
        }

        private int free() {
            int bits = 0;
            for (int p = 0; p < people; p++) {
                int sum = 0;
                for (int other = 0; other < people; other++) {
                    sum += owed[MOST_PEOPLE * p + other];
                }
                if (sum == 0) {
                    bits |= 1 << p;
                }
            }
            return bits;
        }
    }

    /** Who OWES whom, in a TOWN as told. */
    private static final class Debts {
        static int hardestCourt(Town t, int person, boolean who) {
            int most = 0;
            int best = 0;
            for (int set = 1; set < 1 << t.people; set++) {
                int sum = t.allHate(set) ? owesTo(t, person, set) : 0;
                if (sum > most) {
                    most = sum;
                    best = set;
                }
            }
            return who ? best : most;
        }

        private static int owesTo(Town t, int person, int set) {
            int sum = 0;
            for (int other = 0; other < t.people; other++) {
                if ((set >> other & 1) != 0) {
                    sum += t.owes(person, other);
                }
            }
            return sum;
        }

        static int longestRota(Town t, boolean who) {
            int most = NONE;
            int best = NONE;
            for (int p = 0; p < t.people; p++) {
                int sum = t.isOwedInAll(p);
                if (sum > most) {
                    most = sum;
                    best = p;
                }
            }
            return who ? best : Math.max(0, most);
        }

        /** Each round that goes on ruins one more, so that there are no more rounds than PEOPLE. */
        static int ruinedBy(Town t, int person) {
            int ruined = 1 << person;
            for (int round = 0; round < t.people; round++) {
                int before = ruined;
                for (int p = 0; p < t.people; p++) {
                    if (t.owesInAll(p) > t.purse[p] + stillOwedTo(t, p, ruined)) {
                        ruined |= 1 << p;
                    }
                }
                if (ruined == before) {
                    break;
                }
            }
            return ruined;
        }

        private static int stillOwedTo(Town t, int person, int ruined) {
            int sum = 0;
            for (int other = 0; other < t.people; other++) {
                if ((ruined >> other & 1) == 0) {
                    sum += t.owes(other, person);
                }
            }
            return sum;
        }

        static int forgivenDownTo(Town t, int x) {
            int sum = 0;
            for (int p = 0; p < t.people; p++) {
                sum += Math.max(0, t.owesInAll(p) - x);
            }
            return sum;
        }

        static int tellOfTown(Town t, int what) {
            switch (what) {
                case 0:
                    return mutual(t);
                case 1:
                    return shortestRing(t);
                case 2:
                    return richest(t);
                case 3:
                    return twins(t);
                case 4:
                    return favourite(t);
                default:
                    return NO_SUCH;
            }
        }

        private static int mutual(Town t) {
            int sum = 0;
            for (int a = 0; a < t.people; a++) {
                for (int b = a + 1; b < t.people; b++) {
                    sum += Math.min(t.owes(a, b), t.owes(b, a));
                }
            }
            return sum;
        }

        private static int shortestRing(Town t) {
            int fewest = NONE;
            for (int p = 0; p < t.people; p++) {
                int steps = stepsBackTo(t, p);
                if (steps != NONE && (fewest == NONE || steps < fewest)) {
                    fewest = steps;
                }
            }
            return fewest;
        }

        private static int stepsBackTo(Town t, int person) {
            int here = 1 << person;
            for (int steps = 1; steps <= t.people; steps++) {
                int onward = 0;
                for (int p = 0; p < t.people; p++) {
                    if ((here >> p & 1) != 0) {
                        onward |= t.creditorsOf(p);
                    }
                }
                if ((onward >> person & 1) != 0) {
                    return steps;
                }
                here = onward;
            }
            return NONE;
        }

        private static int richest(Town t) {
            int best = NONE;
            int most = 0;
            for (int p = 0; p < t.people; p++) {
                int has = t.wealthOf(p);
                if (best == NONE || has > most) {
                    best = p;
                    most = has;
                }
            }
            return best;
        }

        private static int twins(Town t) {
            int couples = 0;
            for (int a = 0; a < t.people; a++) {
                for (int b = a + 1; b < t.people; b++) {
                    if (t.wit[a] == t.wit[b] && t.purse[a] == t.purse[b]) {
                        couples++;
                    }
                }
            }
            return couples;
        }

        private static int favourite(Town t) {
            int best = NONE;
            int most = NONE;
            for (int p = 0; p < t.people; p++) {
                int debtors = Integer.bitCount(t.debtorsOf(p));
                if (debtors > most) {
                    most = debtors;
                    best = p;
                }
            }
            return best;
        }
    }

    /** Who lends, who pays, who talks: what needs tables, made once and used again. */
    private static final class Purses {
        private final int[] sums = new int[SETS];
        private final int[] table = new int[SETS * (MOST_PEOPLE + 1)];
        private final int[] onward = new int[MOST_PEOPLE];
        private final long[] chances = new long[MOST_TALKS + 1];

        /** PEOPLE among whom all is even need one payment less than they are: as many such groups as there can be. */
        int fewestPayments(Town t) {
            sums[0] = 0;
            table[0] = 0;
            for (int p = 0; p < t.people; p++) {
                int sum = t.netOf(p);
                for (int set = 0; set < 1 << p; set++) {
                    sums[1 << p | set] = sums[set] + sum;
                }
            }
            for (int set = 1; set < 1 << t.people; set++) {
                table[set] = mostGroups(t, set);
            }
            return t.people - table[(1 << t.people) - 1];
        }

        private int mostGroups(Town t, int set) {
            int most = 0;
            for (int p = 0; p < t.people; p++) {
                if ((set >> p & 1) != 0) {
                    most = Math.max(most, table[set ^ 1 << p]);
                }
            }
            return sums[set] == 0 ? most + 1 : most;
        }

        /** How tedious n hours are (from NONE), or how much comes from one; NONE if all others have too little. */
        static int leastTedious(Town t, int person, int n, int from) {
            int left = n;
            int tedious = 0;
            int fromOne = 0;
            for (int wit = 9; wit >= 0; wit--) {
                for (int p = 0; p < t.people; p++) {
                    if (p != person && t.wit[p] == wit) {
                        int part = Math.min(left, t.purse[p]);
                        left -= part;
                        tedious += part * (10 - wit);
                        if (p == from) {
                            fromOne = part;
                        }
                    }
                }
            }
            if (left > 0) {
                return NONE;
            }
            return from == NONE ? tedious : fromOne;
        }

        /** What all are worth (k NONE), or to whom PERSON k lends. */
        int bestLending(Town t, int k) {
            Arrays.fill(table, 0);
            for (int p = t.people - 1; p >= 0; p--) {
                for (int taken = 0; taken < 1 << t.people; taken++) {
                    table[SETS * p + taken] = mostWorth(t, p, taken);
                }
            }
            if (k == NONE) {
                return table[0];
            }
            int taken = 0;
            int to = NOBODY;
            for (int p = 0; p <= k && p < t.people; p++) {
                to = firstBorrower(t, p, taken);
                if (to != NOBODY) {
                    taken |= 1 << to;
                }
            }
            return to;
        }

        private int mostWorth(Town t, int lender, int taken) {
            int most = table[SETS * (lender + 1) + taken];
            for (int p = 0; p < t.people; p++) {
                if (p != lender && (taken >> p & 1) == 0) {
                    most = Math.max(most, worthWith(t, lender, p, taken));
                }
            }
            return most;
        }

        private int worthWith(Town t, int lender, int borrower, int taken) {
            int worth = t.purse[lender] > t.purse[borrower] ? t.wit[borrower] : 0;
            return worth + table[SETS * (lender + 1) + (taken | 1 << borrower)];
        }

        private int firstBorrower(Town t, int lender, int taken) {
            int most = table[SETS * lender + taken];
            for (int p = 0; p < t.people; p++) {
                if (p != lender && (taken >> p & 1) == 0 && worthWith(t, lender, p, taken) == most) {
                    return p;
                }
            }
            return NOBODY;
        }

        /** How many are in the longest CHAIN (k NONE), or the k-th of its first row. */
        int longestChain(Town t, int k) {
            for (int p = 0; p < t.people; p++) {
                onward[p] = t.creditorsOf(p);
            }
            for (int used = (1 << t.people) - 1; used > 0; used--) {
                for (int p = 0; p < t.people; p++) {
                    if ((used >> p & 1) != 0) {
                        table[MOST_PEOPLE * used + p] = 1 + longestOf(t, onward[p], used);
                    }
                }
            }
            int all = (1 << t.people) - 1;
            int most = longestOf(t, all, 0);
            if (k == NONE) {
                return most;
            }
            if (k < 0 || k >= most) {
                return NONE;
            }
            int used = 0;
            int at = firstOf(t, all, used, most);
            for (int i = 1; i <= k && at != NONE; i++) {
                used |= 1 << at;
                at = firstOf(t, onward[at], used, most - i);
            }
            return at;
        }

        private int longestOf(Town t, int among, int used) {
            int most = 0;
            for (int p = 0; p < t.people; p++) {
                if ((among & ~used & 1 << p) != 0) {
                    most = Math.max(most, table[MOST_PEOPLE * (used | 1 << p) + p]);
                }
            }
            return most;
        }

        private int firstOf(Town t, int among, int used, int rest) {
            for (int p = 0; p < t.people; p++) {
                if ((among & ~used & 1 << p) != 0 && table[MOST_PEOPLE * (used | 1 << p) + p] == rest) {
                    return p;
                }
            }
            return NONE;
        }

        /** Each hour parts in ten ways: chances[j] is in how many of all of them he talked j times. */
        long oddsOfTalk(int debt, int p, int n, boolean under) {
            Arrays.fill(chances, 0);
            chances[0] = 1;
            long all = 1;
            for (int i = 1; i <= n && i <= MOST_TALKS; i++) {
                all *= 10;
                for (int j = i; j > 0; j--) {
                    chances[j] = chances[j] * (10 - p) + chances[j - 1] * p;
                }
                chances[0] *= 10 - p;
            }
            long enough = 0;
            for (int j = debt; j <= n && j <= MOST_TALKS; j++) {
                enough += j < 0 ? 0 : chances[j];
            }
            return Odds.lowest(enough, all, under);
        }
    }

    /** Who HATES whom, and who is chosen, invited, seated. */
    private static final class Seats {
        private final int[] row = new int[MOST_PEOPLE];
        private final int[] debtors = new int[MOST_PEOPLE];

        static int bestChoice(Town t, int n, boolean first) {
            int most = 0;
            int whom = NONE;
            for (int p = 0; p < t.people && n > 0; p++) {
                int lead = gain(t, p, 0) - leadOf(t, 0, 1 << p, n - 1);
                if (whom == NONE || lead > most) {
                    most = lead;
                    whom = p;
                }
            }
            return first ? whom : most;
        }

        private static int gain(Town t, int person, int mine) {
            return (t.hated[person] & mine) == 0 ? t.wit[person] : -t.wit[person];
        }

        /** How much more the one whose turn it is gains than the other one, in what is left. */
        private static int leadOf(Town t, int mine, int theirs, int left) {
            int free = ~(mine | theirs) & (1 << t.people) - 1;
            if (left <= 0 || left > MOST_CHOICES || free == 0) {
                return 0;
            }
            int most = NO_SUM;
            for (int p = 0; p < t.people; p++) {
                if ((free >> p & 1) != 0) {
                    most = Math.max(most, gain(t, p, mine) - leadOf(t, theirs, mine | 1 << p, left - 1));
                }
            }
            return most;
        }

        static int tellOfPeople(Town t, int what) {
            if (what == 5) {
                return feuds(t);
            }
            if (what == 6) {
                return loners(t);
            }
            if (what >= 10 && what < 20) {
                return boreAt(t, what - 10);
            }
            return what >= 20 && what < 30 && t.has(what - 20) ? feudOf(t, what - 20) : NO_SUCH;
        }

        private static int feudOf(Town t, int person) {
            int bits = 1 << person;
            for (int round = 0; round < t.people; round++) {
                for (int p = 0; p < t.people; p++) {
                    if ((bits >> p & 1) != 0) {
                        bits |= t.hated[p];
                    }
                }
            }
            return bits;
        }

        private static int feuds(Town t) {
            int seen = 0;
            int many = 0;
            for (int p = 0; p < t.people; p++) {
                if ((seen >> p & 1) == 0) {
                    seen |= feudOf(t, p);
                    many++;
                }
            }
            return many;
        }

        private static int loners(Town t) {
            int bits = 0;
            for (int p = 0; p < t.people; p++) {
                if (t.creditorsOf(p) == 0 && t.debtorsOf(p) == 0) {
                    bits |= 1 << p;
                }
            }
            return bits;
        }

        private static int boreAt(Town t, int k) {
            for (int p = 0; p < t.people; p++) {
                int before = 0;
                for (int other = 0; other < t.people; other++) {
                    if (t.wit[other] < t.wit[p] || t.wit[other] == t.wit[p] && other < p) {
                        before++;
                    }
                }
                if (before == k) {
                    return p;
                }
            }
            return NO_SUCH;
        }

        static int wittiestParty(Town t, int n, boolean who) {
            int most = NONE;
            int guests = NONE;
            for (int set = 0; set < 1 << t.people; set++) {
                if (Integer.bitCount(set) == n && t.noneHate(set) && t.witOf(set) > most) {
                    most = t.witOf(set);
                    guests = set;
                }
            }
            return who ? guests : most;
        }

        /** How many tables (k NONE), or at which PERSON k sits. */
        int fewestTables(Town t, int k) {
            int many = 0;
            while (many < t.people && !canSeat(t, row, 0, many, 0)) {
                many++;
            }
            if (many == t.people) {
                canSeat(t, row, 0, many, 0);
            }
            return k < 0 || k >= MOST_PEOPLE ? many : row[k];
        }

        /** A first row takes no new table before all lesser ones are taken: so only the next new one is tried. */
        private static boolean canSeat(Town t, int[] row, int p, int many, int taken) {
            if (p >= t.people || p >= row.length) {
                return true;
            }
            for (int table = 0; table < many && table <= taken; table++) {
                if (isFree(t, row, p, table)) {
                    row[p] = table;
                    if (canSeat(t, row, p + 1, many, Math.max(taken, table + 1))) {
                        return true;
                    }
                }
            }
            return false;
        }

        /** Whether none of the PEOPLE before p who are there is HATED by p. */
        private static boolean isFree(Town t, int[] row, int p, int where) {
            for (int other = 0; other < p; other++) {
                if (row[other] == where && t.hates(p, other)) {
                    return false;
                }
            }
            return true;
        }

        /** How many sit (k NONE), or with whom PERSON k does. */
        int fullestHour(Town t, int k) {
            int most = 0;
            for (int p = 0; p < t.people; p++) {
                debtors[p] = t.debtorsOf(p);
                if (debtors[p] != 0) {
                    most++;
                }
            }
            int many = most;
            while (many > 0 && !canSit(t, debtors, row, 0, most - many)) {
                many--;
            }
            if (many == 0) {
                Arrays.fill(row, NOBODY);
            }
            return k < 0 || k >= MOST_PEOPLE ? many : row[k];
        }

        /** The first row in which no more than so many idle ones have debtors and yet sit with nobody. */
        private static boolean canSit(Town t, int[] debtors, int[] row, int p, int idle) {
            if (p >= t.people || p >= row.length || p >= debtors.length) {
                return true;
            }
            for (int debtor = 0; debtor < t.people; debtor++) {
                if ((debtors[p] >> debtor & 1) != 0 && isFree(t, row, p, debtor)) {
                    row[p] = debtor;
                    if (canSit(t, debtors, row, p + 1, idle)) {
                        return true;
                    }
                }
            }
            row[p] = NOBODY;
            if (debtors[p] == 0) {
                return canSit(t, debtors, row, p + 1, idle);
            }
            return idle > 0 && canSit(t, debtors, row, p + 1, idle - 1);
        }
    }

    /** All numbers that FIT a LOG in a TOWN, rising. */
    private static final class Suspects {
        int size = 0;
        private int people = 0;
        private final int[] found = new int[MOST_PEOPLE * (SETS / 2 - 1)];

        /** False if there is no such TOWN or LOG. */
        boolean find(Town t, Log l) {
            size = 0;
            if (t == null || l == null) {
                return false;
            }
            people = t.people;
            if (!l.isOf(t)) {
                return true;
            }
            for (int debtor = 0; debtor < t.people; debtor++) {
                for (int others = 1; others < 1 << t.people; others++) {
                    if ((others >> debtor & 1) == 0 && l.agrees(others | 1 << debtor) && t.noneHate(others)) {
                        add(100 * debtor + others);
                    }
                }
            }
            return true;
        }

        private void add(int number) {
            if (size < found.length) {
                found[size] = number;
                size++;
            }
        }

        int together(int a, int b) {
            int many = 0;
            for (int i = 0; i < size; i++) {
                int all = found[i] % 100 | 1 << found[i] / 100;
                many += all >> a & all >> b & 1;
            }
            return many;
        }

        int tell(int what) {
            if (what == 0) {
                return size;
            }
            if (what == 1) {
                return sure();
            }
            if (what == 2) {
                return watch();
            }
            return what >= 10 && what - 10 < size ? found[what - 10] : NO_SUCH;
        }

        private int sure() {
            return size > 0 && found[0] / 100 == found[size - 1] / 100 ? found[0] / 100 : NONE;
        }

        private int watch() {
            int best = NONE;
            int least = size + 1;
            for (int a = 0; a < people && size > 0; a++) {
                for (int b = a + 1; b < people; b++) {
                    int many = together(a, b);
                    int greater = Math.max(many, size - many);
                    if (greater < least) {
                        least = greater;
                        best = 10 * a + b;
                    }
                }
            }
            return best;
        }

        /** With how many the debtor sits, at least or at most; NONE if nothing FITS. */
        int company(boolean most) {
            int answer = NONE;
            for (int i = 0; i < size; i++) {
                int many = Integer.bitCount(found[i] % 100);
                if (answer == NONE || (most ? many > answer : many < answer)) {
                    answer = many;
                }
            }
            return answer;
        }
    }

    /** Fractions in least terms. */
    private static final class Odds {
        static long lowest(long over, long whole, boolean under) {
            long a = whole;
            long b = over;
            for (int step = 0; step < 200 && b != 0; step++) {
                long rest = a % b;
                a = b;
                b = rest;
            }
            if (a == 0) {
                return NONE;
            }
            return (under ? whole : over) / a;
        }

        static long ofMeeting(Town t, boolean owes, boolean under) {
            int couples = 0;
            int such = 0;
            for (int a = 0; a < t.people; a++) {
                for (int b = a + 1; b < t.people; b++) {
                    couples++;
                    if (owes ? t.owes(a, b) + t.owes(b, a) > 0 : t.hates(a, b)) {
                        such++;
                    }
                }
            }
            return lowest(such, couples, under);
        }

        static long ofGuest(Town t, int n, boolean under) {
            int such = 0;
            for (int p = 0; p < t.people; p++) {
                if (t.purse[p] >= n) {
                    such++;
                }
            }
            return lowest(such, t.people, under);
        }
    }
}
