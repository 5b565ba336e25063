import java.util.NoSuchElementException;

/** Opens the short forms of a manuscript's page by a table of readings; ../shared/DOC.md says what each call answers. */
public final class ShortForms {
    public static final int NONE = -1;

    private static final int NO_MORE = -2;
    private static final int STRANGE = -2;
    private static final int DARK = -3;
    private static final int NO_CHOICE = -9;
    private static final int UNFIXED = -9;

    private static final int MOST_TAPE = 900;
    private static final int FEED_BYTES = 20;
    private static final int MOST_READINGS = 24;
    private static final int MOST_ENTRIES = 24;
    private static final int MOST_WORDS = 10;
    private static final int MOST_BYTES = 10;
    private static final int MOST_READING_LETTERS = 6;
    private static final int MOST_ENTRY_LETTERS = 8;
    private static final int MOST_OPENED = 60;
    private static final int KINDS = 5;
    private static final int MOST_WEIGHT = 999;
    private static final int MOST_TIMES = 999;
    private static final int MOST_UNDONE = 20;
    private static final long MOST_OPENINGS = 1000000000000L;
    private static final int ALL_ENTRIES = (1 << MOST_ENTRIES) - 1;

    // Above what any page can cost, and low enough that ten of them still fit an int.
    private static final int FAR = 1000000;

    private static final int FAULT_TOKEN = 1;
    private static final int FAULT_TOO_MUCH = 2;
    private static final int FAULT_TOLD = 3;

    private static final String SIGNS = "~^'&@#%*+=";

    // What stands beside a byte has a code: 0 nothing, 1 to 26 a letter, 27 a SIGN; a condition is a set of codes.
    private static final int CODES = 28;
    private static final int LETTER_CODES = 27;
    private static final int NOTHING = 0;
    private static final int SIGN_CODE = 27;
    private static final int ALL_CODES = (1 << CODES) - 1;
    private static final int VOWEL_CODES = (1 << 1) | (1 << 5) | (1 << 9) | (1 << 15) | (1 << 21);
    private static final int CONS_CODES = ((1 << LETTER_CODES) - 2) & ~VOWEL_CODES;

    private static final int ANY = 0;
    private static final int EDGE = 1;
    private static final int VOWEL = 2;
    private static final int CONS = 3;
    private static final int FIRST_LETTER = 4;
    private static final int AHEAD_SIGN = 30;

    private final int[] tape = new int[MOST_TAPE];
    private int tapeSize = 0;
    private final Script script = new Script();
    private Table table = new Table();
    private Table spareTable = new Table();
    private Page page = new Page();
    private Page sparePage = new Page();
    private final Marks marks = new Marks();
    private final Past past = new Past();
    private final Opener opener = new Opener();
    private final Choices choices = new Choices();
    private final Choices trialChoices = new Choices();
    private final Paths paths = new Paths();
    private final Paths trialPaths = new Paths();
    private final Shortener shortener = new Shortener();
    private final int[] candidates = new int[MOST_WORDS];
    private final int[] taken = new int[MOST_READINGS];
    private boolean stale = true;

    public ShortForms() {
    }

    public int feed(int a, int b, int c, int d, int e) {
        if (tapeSize > MOST_TAPE - FEED_BYTES) {
            return NONE;
        }
        putBytes(a);
        putBytes(b);
        putBytes(c);
        putBytes(d);
        putBytes(e);
        return tapeSize;
    }

    public int text(int n) {
        if (n < 0 || n > tapeSize) {
            return NO_MORE;
        }
        int lines = script.readTable(tape, n, spareTable);
        tapeSize = 0;
        if (lines < 0) {
            return NONE;
        }
        Table read = spareTable;
        spareTable = table;
        table = read;
        page.words = 0;
        marks.begin(table);
        past.clear();
        shortener.solved = NONE;
        tryAllEntries();
        return lines;
    }

    public int page(int n) {
        if (n < 0 || n > tapeSize) {
            return NO_MORE;
        }
        int words = script.readPage(tape, n, sparePage);
        tapeSize = 0;
        if (words < 0) {
            return NONE;
        }
        Page read = sparePage;
        sparePage = page;
        page = read;
        marks.unfixAll();
        past.clear();
        tryAllEntries();
        return words;
    }

    public int fault(int what) {
        if (what == 0) {
            return script.fault;
        }
        return what == 1 ? script.faultPlace : NONE;
    }

    public int open(int reading, int what) throws IndexOutOfBoundsException, NoSuchElementException {
        if (!hasReading(reading)) {
            throw new IndexOutOfBoundsException("no such reading");
        }
        Reading r = table.readings[reading];
        switch (what) {
            case 0: return r.sign;
            case 1: return r.size;
            case 2: return r.behind;
            case 3: return r.ahead;
            case 4: return marks.weight[reading];
            case 5: return marks.times[reading];
            case 6: return marks.weightNow(reading, table.habit);
            default: throw new NoSuchElementException("no such what");
        }
    }

    public int entry(int entry, int what) {
        if (!hasEntry(entry)) {
            return NONE;
        }
        Entry e = table.entries[entry];
        switch (what) {
            case 0: return e.size;
            case 1: return e.kind;
            case 2: return e.form;
            default: return NONE;
        }
    }

    public int letter(boolean of, int which, int i) {
        if (i < 0 || (of ? !hasReading(which) : !hasEntry(which))) {
            return NONE;
        }
        int found = of ? table.readings[which].letterAt(i) : table.entries[which].letterAt(i);
        return found == NOTHING ? NO_MORE : found;
    }

    public int written(int word, int i) {
        if (!hasWord(word) || i < 0) {
            return NONE;
        }
        return i < page.size[word] ? page.bytes[word][i] : NO_MORE;
    }

    public long openings(int word) {
        if (!hasWord(word)) {
            return NONE;
        }
        refresh();
        return Math.min(MOST_OPENINGS, choices.ways[word]);
    }

    public int least(int word) {
        if (!hasWord(word)) {
            return NONE;
        }
        refresh();
        return costOrNone(choices.leastCost[word]);
    }

    public int leastLetter(int word, int i) {
        if (!hasWord(word) || i < 0) {
            return NONE;
        }
        refresh();
        return i < choices.leastSize[word] ? choices.leastLetters[word][i] : NO_MORE;
    }

    public int exact(int word, int entry) {
        if (!hasWord(word) || !hasEntry(entry)) {
            return NONE;
        }
        refresh();
        return costOrNone(choices.exactCost[word][entry]);
    }

    public int exactBy(int word, int entry, int k) {
        if (!hasWord(word) || !hasEntry(entry) || k < 0) {
            return NONE;
        }
        opener.prepare(table, marks, NONE);
        opener.walkExact(page, word, table.entries[entry]);
        return k < opener.steps ? opener.path[k] : NO_MORE;
    }

    public int choices(int word) {
        if (!hasWord(word)) {
            return NONE;
        }
        refresh();
        return choices.size[word];
    }

    public int choice(int word, int place, int what) {
        refresh();
        if (!hasChoice(word, place)) {
            return NO_CHOICE;
        }
        switch (what) {
            case 0: return choices.who[word][place];
            case 1: return choices.cost[word][place];
            case 2: return lettersOf(word, place);
            default: return NO_CHOICE;
        }
    }

    public int best() {
        refresh();
        return costOrNone(paths.least);
    }

    public int chosen(int word) {
        if (!hasWord(word)) {
            return NONE;
        }
        refresh();
        return paths.least < FAR ? paths.place[word] : NO_MORE;
    }

    public int opened(int i) {
        if (i < 0) {
            return NONE;
        }
        refresh();
        if (paths.least >= FAR) {
            return NO_MORE;
        }
        int left = i;
        for (int w = 0; w < page.words; w++) {
            if (w > 0) {
                if (left == 0) {
                    return ' ';
                }
                left--;
            }
            int size = lettersOf(w, paths.place[w]);
            if (left < size) {
                return letterOf(w, paths.place[w], left);
            }
            left -= size;
        }
        return NO_MORE;
    }

    public int takes(int reading) {
        if (!hasReading(reading)) {
            return NONE;
        }
        refresh();
        if (paths.least >= FAR) {
            return NO_MORE;
        }
        countTaken();
        return taken[reading];
    }

    public long readings() {
        refresh();
        return paths.all;
    }

    public int forced(int word, int place) {
        refresh();
        if (!hasChoice(word, place)) {
            return NONE;
        }
        return costOrNone(paths.through(choices, word, place));
    }

    public int margin(int word) {
        if (!hasWord(word)) {
            return NONE;
        }
        refresh();
        int other = paths.leastOther(choices, word);
        return other < FAR ? other - paths.least : NO_MORE;
    }

    public int second() {
        refresh();
        int second = FAR;
        for (int w = 0; w < page.words; w++) {
            second = Math.min(second, paths.leastOther(choices, w));
        }
        return costOrNone(second);
    }

    public int sure() {
        refresh();
        if (paths.least >= FAR) {
            return NO_MORE;
        }
        int bits = 0;
        for (int w = 0; w < page.words; w++) {
            if (paths.leastOther(choices, w) > paths.least) {
                bits |= 1 << w;
            }
        }
        return bits;
    }

    public int without(int reading) {
        if (!hasReading(reading)) {
            return NONE;
        }
        refresh();
        opener.prepare(table, marks, reading);
        trialChoices.fill(table, page, opener, candidates);
        trialPaths.fill(table, trialChoices, marks.fixed);
        return costOrNone(trialPaths.least);
    }

    public int shortest(int entry) {
        if (!hasEntry(entry)) {
            return NONE;
        }
        shortener.solve(table, entry);
        return shortener.size;
    }

    public int shortByte(int entry, int i) {
        if (!hasEntry(entry) || i < 0) {
            return NONE;
        }
        shortener.solve(table, entry);
        return i < shortener.size ? shortener.bytes[i] : NO_MORE;
    }

    public int fits(int word) {
        if (!hasWord(word)) {
            return NONE;
        }
        refresh();
        return choices.fitting[word];
    }

    public int learn() {
        refresh();
        if (paths.least >= FAR) {
            return NO_MORE;
        }
        int all = countTaken();
        past.note(marks);
        for (int r = 0; r < table.readingCount; r++) {
            marks.times[r] = Math.min(MOST_TIMES, marks.times[r] + taken[r]);
        }
        stale = true;
        return all;
    }

    public int forget() {
        int all = allTimes();
        past.note(marks);
        marks.clearTimes();
        stale = true;
        return all;
    }

    public int weigh(int reading, int v) {
        if (!hasReading(reading) || v < 0 || v > MOST_WEIGHT) {
            return NONE;
        }
        int before = marks.weight[reading];
        past.note(marks);
        marks.weight[reading] = v;
        stale = true;
        return before;
    }

    public int fix(int word, int place) {
        refresh();
        if (!hasChoice(word, place)) {
            return NO_CHOICE;
        }
        int who = choices.who[word][place];
        past.note(marks);
        marks.fixed[word] = who;
        stale = true;
        return who;
    }

    public int free(int word) {
        if (!hasWord(word)) {
            return NONE;
        }
        int was = marks.fixed[word] == UNFIXED ? 0 : 1;
        past.note(marks);
        marks.fixed[word] = UNFIXED;
        stale = true;
        return was;
    }

    public int fixed() {
        return marks.fixedBits();
    }

    public int chance(int seed, int n, int what) {
        if (seed < -1 || n < 1 || n > 100 || what < 0 || what > 1) {
            return NONE;
        }
        refresh();
        long last = seed == -1 ? table.seed : seed;
        int hits = 0;
        int least = FAR;
        for (int k = 0; k < n; k++) {
            int cost = 0;
            int ahead = STRANGE;
            for (int w = 0; w < page.words; w++) {
                last = (last * 1103515245L + 12345L) & 0x7fffffffL;
                int place = drawnPlace(w, last >> 16);
                int who = choices.who[w][place];
                cost += choices.cost[w][place] + table.joint(ahead, who);
                ahead = who;
            }
            if (cost < FAR) {
                hits++;
                least = Math.min(least, cost);
            }
        }
        return what == 0 ? hits : costOrNone(least);
    }

    public int undo() {
        if (past.made == 0) {
            return NONE;
        }
        past.takeBack(marks);
        stale = true;
        return past.made;
    }

    public int keep() {
        past.image.copyFrom(marks);
        past.hasImage = true;
        return Integer.bitCount(marks.fixedBits());
    }

    public int back() {
        if (!past.hasImage) {
            return NONE;
        }
        marks.copyFrom(past.image);
        past.made = 0;
        stale = true;
        return Integer.bitCount(marks.fixedBits());
    }

    public int count(int what) {
        switch (what) {
            case 0: return table.readingCount;
            case 1: return table.entryCount;
            case 2: return page.words;
            case 3: return table.strange;
            case 4: return table.habit;
            case 5: return allTimes();
            case 6: return past.made;
            case 7: return tapeSize;
            case 8:
                refresh();
                return wordsThatAre(DARK);
            case 9:
                refresh();
                return wordsThatAre(STRANGE);
            default: return NONE;
        }
    }

    private boolean hasReading(int reading) {
        return reading >= 0 && reading < table.readingCount;
    }

    private boolean hasEntry(int entry) {
        return entry >= 0 && entry < table.entryCount;
    }

    private boolean hasWord(int word) {
        return word >= 0 && word < page.words;
    }

    private boolean hasChoice(int word, int place) {
        return hasWord(word) && place >= 0 && place < choices.size[word];
    }

    private void putBytes(int number) {
        for (int shift = 24; shift >= 0; shift -= 8) {
            if (tapeSize < MOST_TAPE) {
                tape[tapeSize] = (number >>> shift) & 255;
                tapeSize++;
            }
        }
    }

    private void tryAllEntries() {
        for (int w = 0; w < MOST_WORDS; w++) {
            candidates[w] = ALL_ENTRIES;
        }
        stale = true;
    }

    private void refresh() {
        if (!stale) {
            return;
        }
        opener.prepare(table, marks, NONE);
        choices.fill(table, page, opener, candidates);
        // Weights never change which ENTRIES fit: until the next PAGE only these need a look.
        for (int w = 0; w < page.words; w++) {
            candidates[w] = choices.fitting[w];
        }
        paths.fill(table, choices, marks.fixed);
        stale = false;
    }

    private static int costOrNone(int cost) {
        return cost < FAR ? cost : NO_MORE;
    }

    private int lettersOf(int word, int place) {
        int who = choices.who[word][place];
        if (hasEntry(who)) {
            return table.entries[who].size;
        }
        return who == STRANGE ? choices.leastSize[word] : 0;
    }

    private int letterOf(int word, int place, int i) {
        int who = choices.who[word][place];
        if (hasEntry(who)) {
            return table.entries[who].letterAt(i);
        }
        return i < MOST_OPENED ? choices.leastLetters[word][i] : NO_MORE;
    }

    private int countTaken() {
        opener.prepare(table, marks, NONE);
        for (int r = 0; r < MOST_READINGS; r++) {
            taken[r] = 0;
        }
        int all = 0;
        for (int w = 0; w < page.words; w++) {
            int who = choices.who[w][paths.place[w]];
            if (hasEntry(who)) {
                opener.walkExact(page, w, table.entries[who]);
            } else {
                opener.weighOpenings(page, w);
                opener.walkLeast(page, w);
            }
            for (int k = 0; k < opener.steps; k++) {
                taken[opener.path[k]]++;
            }
            all += opener.steps;
        }
        return all;
    }

    private int allTimes() {
        int all = 0;
        for (int r = 0; r < table.readingCount; r++) {
            all += marks.times[r];
        }
        return all;
    }

    private int wordsThatAre(int who) {
        int all = 0;
        for (int w = 0; w < page.words; w++) {
            if (choices.who[w][0] == who) {
                all++;
            }
        }
        return all;
    }

    private int drawnPlace(int word, long drawn) {
        int size = choices.size[word];
        int held = choices.placeOf(word, marks.fixed[word]);
        if (held >= 0) {
            return held;
        }
        return size > 0 ? (int) (drawn % size) : 0;
    }

    private static boolean isSmall(int b) {
        return b >= 'a' && b <= 'z';
    }

    private static boolean isBlank(int b) {
        return b == 10 || b == 32;
    }

    private static int signOf(int b) {
        return b > 0 && b < 128 ? SIGNS.indexOf((char) b) : NONE;
    }

    private static int codeOf(int letter) {
        return isSmall(letter) ? letter - 'a' + 1 : NOTHING;
    }

    private static boolean isIn(int codes, int code) {
        return (codes >> code & 1) == 1;
    }

    private static int codesOf(int condition) {
        switch (condition) {
            case ANY: return ALL_CODES;
            case EDGE: return 1 << NOTHING;
            case VOWEL: return VOWEL_CODES;
            case CONS: return CONS_CODES;
            case AHEAD_SIGN: return 1 << SIGN_CODE;
            default: return 1 << (condition - FIRST_LETTER + 1);
        }
    }

    /** One line of the table of readings. */
    private static final class Reading {
        final int[] letters = new int[MOST_READING_LETTERS];
        int sign = 0;
        int size = 0;
        int behind = ANY;
        int ahead = ANY;
        int behindCodes = ALL_CODES;
        int aheadCodes = ALL_CODES;
        int weight = 0;

        int letterAt(int i) {
            return i >= 0 && i < size && i < MOST_READING_LETTERS ? letters[i] : NOTHING;
        }

        void standBetween(int behindCondition, int aheadCondition) {
            behind = behindCondition;
            ahead = aheadCondition;
            behindCodes = codesOf(behindCondition);
            aheadCodes = codesOf(aheadCondition);
        }

        /** The code of what is opened last when this READING has been taken. */
        int codeAfter(int last) {
            return size > 0 ? letters[size - 1] - 'a' + 1 : last;
        }

        boolean standsIn(Entry entry, int from) {
            if (from + size > entry.size) {
                return false;
            }
            for (int i = 0; i < size; i++) {
                if (letters[i] != entry.letters[from + i]) {
                    return false;
                }
            }
            return true;
        }
    }

    /** One word of the lexicon. */
    private static final class Entry {
        final int[] letters = new int[MOST_ENTRY_LETTERS];
        int size = 0;
        int kind = 0;
        int form = 0;

        int letterAt(int i) {
            return i >= 0 && i < size && i < MOST_ENTRY_LETTERS ? letters[i] : NOTHING;
        }

        int codeAt(int i) {
            return i >= 0 && i < size && i < MOST_ENTRY_LETTERS ? letters[i] - 'a' + 1 : NOTHING;
        }
    }

    /** What a TEXT tells. */
    private static final class Table {
        final Reading[] readings = new Reading[MOST_READINGS];
        final Entry[] entries = new Entry[MOST_ENTRIES];
        final boolean[] agree = new boolean[KINDS * KINDS];
        final boolean[] priced = new boolean[KINDS * KINDS];
        final int[] price = new int[KINDS * KINDS];
        int readingCount = 0;
        int entryCount = 0;
        int strange = 500;
        int habit = 0;
        int seed = 0;

        Table() {
            for (int r = 0; r < MOST_READINGS; r++) {
                readings[r] = new Reading();
            }
            for (int e = 0; e < MOST_ENTRIES; e++) {
                entries[e] = new Entry();
            }
        }

        void clear() {
            readingCount = 0;
            entryCount = 0;
            strange = 500;
            habit = 0;
            seed = 0;
            for (int k = 0; k < KINDS * KINDS; k++) {
                agree[k] = false;
                priced[k] = false;
                price[k] = 0;
            }
        }

        /** What two neighbours cost by their KINDS; FAR if they may not stand so. */
        int joint(int ahead, int behind) {
            if (ahead < 0 || behind < 0 || ahead >= entryCount || behind >= entryCount) {
                return 0;
            }
            Entry first = entries[ahead];
            Entry next = entries[behind];
            int pair = first.kind * KINDS + next.kind;
            if (agree[pair] && first.form != next.form) {
                return FAR;
            }
            return price[pair];
        }
    }

    /** The WORDS of a page, with the SIGN and the code of each byte. */
    private static final class Page {
        final int[] size = new int[MOST_WORDS];
        final int[][] bytes = new int[MOST_WORDS][MOST_BYTES];
        final int[][] sign = new int[MOST_WORDS][MOST_BYTES];
        // One longer than the bytes: behind the last one stands NOTHING.
        final int[][] code = new int[MOST_WORDS][MOST_BYTES + 1];
        int words = 0;

        boolean isFull() {
            return words >= MOST_WORDS;
        }

        boolean isLastWordFull() {
            return words > 0 && size[words - 1] >= MOST_BYTES;
        }

        void beginWord() {
            if (words < MOST_WORDS) {
                size[words] = 0;
                code[words][0] = NOTHING;
                words++;
            }
        }

        void put(int b, int signNumber) {
            int w = words - 1;
            if (w >= 0 && size[w] < MOST_BYTES) {
                int at = size[w];
                bytes[w][at] = b;
                sign[w][at] = signNumber;
                code[w][at] = signNumber >= 0 ? SIGN_CODE : codeOf(b);
                code[w][at + 1] = NOTHING;
                size[w] = at + 1;
            }
        }
    }

    /** Reads a TEXT or a PAGE from the tape's bytes, up to the first FAULT. */
    private static final class Script {
        // The words of the language, each in a slot of eight bytes, so that a word's number is its slot.
        private static final String LANGUAGE =
            "open    word    agree   pair    strange habit   seed    any     start   vowel   cons    end     sign    noun    verb    adj     prep    conj    ";
        private static final int SLOT = 8;
        private static final int SLOTS = 18;
        private static final int SAY_OPEN = 0;
        private static final int SAY_WORD = 1;
        private static final int SAY_AGREE = 2;
        private static final int SAY_PAIR = 3;
        private static final int SAY_STRANGE = 4;
        private static final int SAY_HABIT = 5;
        private static final int SAY_SEED = 6;
        private static final int SAY_ANY = 7;
        private static final int SAY_START = 8;
        private static final int SAY_VOWEL = 9;
        private static final int SAY_CONS = 10;
        private static final int SAY_END = 11;
        private static final int SAY_SIGN = 12;
        private static final int SAY_NOUN = 13;

        private static final int AT_END = 0;
        private static final int LANGUAGE_WORD = 1;
        private static final int SMALL_LETTERS = 2;
        private static final int DIGITS = 3;
        private static final int SIGN = 4;
        private static final int DASH = 5;
        private static final int CLOSE = 6;
        private static final int NOISE = 7;

        // Above every number that a TEXT may tell, so that more digits need not be kept.
        private static final int TOO_MUCH = 1000000;

        int fault = 0;
        int faultPlace = NONE;
        private final boolean[] told = new boolean[SAY_SEED - SAY_STRANGE + 1];
        private int[] tape = new int[0];
        private int limit = 0;
        private int at = 0;
        private int kind = AT_END;
        private int place = 0;
        private int size = 0;
        private int value = 0;

        /** How many LINES the TEXT has; NONE with a FAULT, and then the table is of no use. */
        int readTable(int[] bytes, int n, Table table) {
            begin(bytes, n);
            table.clear();
            for (int i = 0; i < told.length; i++) {
                told[i] = false;
            }
            // No LINE is shorter than two bytes.
            for (int lines = 0; lines <= limit; lines++) {
                step();
                if (kind == AT_END) {
                    return lines;
                }
                if (!readLine(table) || !isClosed()) {
                    return NONE;
                }
            }
            return NONE;
        }

        /** How many WORDS the PAGE has; NONE with a FAULT, and then the page is of no use. */
        int readPage(int[] bytes, int n, Page page) {
            begin(bytes, n);
            page.words = 0;
            boolean inside = false;
            for (place = 0; place < limit; place++) {
                int b = tape[place];
                if (isBlank(b)) {
                    inside = false;
                    continue;
                }
                int sign = signOf(b);
                if (sign < 0 && !isSmall(b)) {
                    refuse(FAULT_TOKEN);
                    return NONE;
                }
                if (inside ? page.isLastWordFull() : page.isFull()) {
                    refuse(FAULT_TOO_MUCH);
                    return NONE;
                }
                if (!inside) {
                    page.beginWord();
                    inside = true;
                }
                page.put(b, sign);
            }
            return page.words;
        }

        private void begin(int[] bytes, int n) {
            tape = bytes;
            limit = Math.min(n, bytes.length);
            at = 0;
            fault = 0;
            faultPlace = NONE;
        }

        private boolean refuse(int what) {
            fault = what;
            faultPlace = place;
            return false;
        }

        /** Takes the next TOKEN. */
        private void step() {
            while (at < limit && isBlank(tape[at])) {
                at++;
            }
            place = at;
            size = 0;
            value = 0;
            if (at >= limit) {
                kind = AT_END;
            } else if (isSmall(tape[at])) {
                takeLetters();
            } else if (isDigit(tape[at])) {
                takeDigits();
            } else {
                takeByte(tape[at]);
            }
        }

        private void takeLetters() {
            while (at < limit && isSmall(tape[at])) {
                at++;
            }
            size = at - place;
            value = slotOfToken();
            kind = value >= 0 ? LANGUAGE_WORD : SMALL_LETTERS;
        }

        private void takeDigits() {
            while (at < limit && isDigit(tape[at])) {
                value = Math.min(TOO_MUCH, value * 10 + tape[at] - '0');
                at++;
            }
            kind = DIGITS;
        }

        private void takeByte(int b) {
            at++;
            value = signOf(b);
            if (value >= 0) {
                kind = SIGN;
            } else if (b == '-') {
                kind = DASH;
            } else {
                kind = b == ';' ? CLOSE : NOISE;
            }
        }

        private int slotOfToken() {
            if (size >= SLOT) {
                return NONE;
            }
            for (int slot = 0; slot < SLOTS; slot++) {
                int same = 0;
                while (same < size && LANGUAGE.charAt(slot * SLOT + same) == tape[place + same]) {
                    same++;
                }
                if (same == size && LANGUAGE.charAt(slot * SLOT + same) == ' ') {
                    return slot;
                }
            }
            return NONE;
        }

        private static boolean isDigit(int b) {
            return b >= '0' && b <= '9';
        }

        /** Takes a LINE but for the ';' at its end. */
        private boolean readLine(Table table) {
            if (kind != LANGUAGE_WORD) {
                return refuse(FAULT_TOKEN);
            }
            switch (value) {
                case SAY_OPEN: return readOpen(table);
                case SAY_WORD: return readWord(table);
                case SAY_AGREE: return readKinds(table, false);
                case SAY_PAIR: return readKinds(table, true);
                case SAY_STRANGE: return readSetting(table, MOST_WEIGHT);
                case SAY_HABIT: return readSetting(table, 99);
                case SAY_SEED: return readSetting(table, 99999);
                default: return refuse(FAULT_TOKEN);
            }
        }

        private boolean readOpen(Table table) {
            if (table.readingCount >= MOST_READINGS) {
                return refuse(FAULT_TOO_MUCH);
            }
            Reading reading = table.readings[table.readingCount];
            step();
            if (kind != SIGN) {
                return refuse(FAULT_TOKEN);
            }
            reading.sign = value;
            step();
            if (kind != DASH && !copyLetters(reading.letters)) {
                return false;
            }
            reading.size = kind == DASH ? 0 : size;
            step();
            int behind = conditionOf(false);
            if (behind < 0) {
                return refuse(FAULT_TOKEN);
            }
            step();
            int ahead = conditionOf(true);
            if (ahead < 0) {
                return refuse(FAULT_TOKEN);
            }
            step();
            if (!isNumber(MOST_WEIGHT)) {
                return false;
            }
            reading.weight = value;
            reading.standBetween(behind, ahead);
            table.readingCount++;
            return true;
        }

        private boolean readWord(Table table) {
            if (table.entryCount >= MOST_ENTRIES) {
                return refuse(FAULT_TOO_MUCH);
            }
            Entry entry = table.entries[table.entryCount];
            step();
            if (!copyLetters(entry.letters)) {
                return false;
            }
            entry.size = size;
            step();
            entry.kind = kindOf();
            if (entry.kind < 0) {
                return refuse(FAULT_TOKEN);
            }
            step();
            if (!isNumber(9)) {
                return false;
            }
            entry.form = value;
            table.entryCount++;
            return true;
        }

        private boolean readKinds(Table table, boolean withPrice) {
            step();
            int ahead = kindOf();
            if (ahead < 0) {
                return refuse(FAULT_TOKEN);
            }
            step();
            int behind = kindOf();
            if (behind < 0) {
                return refuse(FAULT_TOKEN);
            }
            boolean[] toldOf = withPrice ? table.priced : table.agree;
            int pair = ahead * KINDS + behind;
            if (toldOf[pair]) {
                return refuse(FAULT_TOLD);
            }
            toldOf[pair] = true;
            if (withPrice) {
                step();
                if (!isNumber(MOST_WEIGHT)) {
                    return false;
                }
                table.price[pair] = value;
            }
            return true;
        }

        private boolean readSetting(Table table, int most) {
            int which = value;
            int tell = which - SAY_STRANGE;
            if (tell < 0 || tell >= told.length || told[tell]) {
                return refuse(FAULT_TOLD);
            }
            told[tell] = true;
            step();
            if (!isNumber(most)) {
                return false;
            }
            if (which == SAY_STRANGE) {
                table.strange = value;
            } else if (which == SAY_HABIT) {
                table.habit = value;
            } else {
                table.seed = value;
            }
            return true;
        }

        private boolean copyLetters(int[] into) {
            if (kind != SMALL_LETTERS || size > into.length) {
                return refuse(FAULT_TOKEN);
            }
            for (int i = 0; i < size; i++) {
                into[i] = tape[place + i];
            }
            return true;
        }

        private int conditionOf(boolean ahead) {
            if (kind == SMALL_LETTERS && size == 1) {
                return FIRST_LETTER + tape[place] - 'a';
            }
            if (kind != LANGUAGE_WORD) {
                return NONE;
            }
            switch (value) {
                case SAY_ANY: return ANY;
                case SAY_START: return ahead ? NONE : EDGE;
                case SAY_END: return ahead ? EDGE : NONE;
                case SAY_VOWEL: return VOWEL;
                case SAY_CONS: return CONS;
                case SAY_SIGN: return ahead ? AHEAD_SIGN : NONE;
                default: return NONE;
            }
        }

        private int kindOf() {
            int number = value - SAY_NOUN;
            return kind == LANGUAGE_WORD && number >= 0 && number < KINDS ? number : NONE;
        }

        private boolean isNumber(int most) {
            if (kind != DIGITS) {
                return refuse(FAULT_TOKEN);
            }
            return value <= most || refuse(FAULT_TOO_MUCH);
        }

        private boolean isClosed() {
            step();
            return kind == CLOSE || refuse(FAULT_TOKEN);
        }
    }

    /** What calls can change: weights, habits and what each WORD is FIXED to. */
    private static final class Marks {
        final int[] weight = new int[MOST_READINGS];
        final int[] times = new int[MOST_READINGS];
        final int[] fixed = new int[MOST_WORDS];

        Marks() {
            for (int w = 0; w < MOST_WORDS; w++) {
                fixed[w] = UNFIXED;
            }
        }

        void begin(Table table) {
            for (int r = 0; r < MOST_READINGS; r++) {
                weight[r] = r < table.readingCount ? table.readings[r].weight : 0;
            }
            clearTimes();
            unfixAll();
        }

        void clearTimes() {
            for (int r = 0; r < MOST_READINGS; r++) {
                times[r] = 0;
            }
        }

        void unfixAll() {
            for (int w = 0; w < MOST_WORDS; w++) {
                fixed[w] = UNFIXED;
            }
        }

        int weightNow(int reading, int habit) {
            return Math.max(0, weight[reading] - habit * times[reading]);
        }

        int fixedBits() {
            int bits = 0;
            for (int w = 0; w < MOST_WORDS; w++) {
                if (fixed[w] != UNFIXED) {
                    bits |= 1 << w;
                }
            }
            return bits;
        }

        void copyFrom(Marks other) {
            for (int r = 0; r < MOST_READINGS; r++) {
                weight[r] = other.weight[r];
                times[r] = other.times[r];
            }
            for (int w = 0; w < MOST_WORDS; w++) {
                fixed[w] = other.fixed[w];
            }
        }
    }

    /** The marks as they were: what can be undone, and the IMAGE. */
    private static final class Past {
        final Marks[] before = new Marks[MOST_UNDONE];
        final Marks image = new Marks();
        int made = 0;
        boolean hasImage = false;

        Past() {
            for (int k = 0; k < MOST_UNDONE; k++) {
                before[k] = new Marks();
            }
        }

        void clear() {
            made = 0;
            hasImage = false;
        }

        void note(Marks now) {
            if (made >= MOST_UNDONE) {
                Marks oldest = before[0];
                for (int k = 1; k < MOST_UNDONE; k++) {
                    before[k - 1] = before[k];
                }
                before[MOST_UNDONE - 1] = oldest;
                made = MOST_UNDONE - 1;
            }
            before[made].copyFrom(now);
            made++;
        }

        void takeBack(Marks now) {
            if (made > 0) {
                made--;
                now.copyFrom(before[made]);
            }
        }
    }

    /**
     * Opens one WORD. Costs are told from the WORD's end back, so that going along it
     * with the first READING that still costs least is the first OPENING of the least cost.
     */
    private static final class Opener {
        final int[] path = new int[MOST_BYTES];
        final int[] letters = new int[MOST_OPENED];
        int steps = 0;
        int opened = 0;
        private final Reading[] readings = new Reading[MOST_READINGS];
        private final int[] price = new int[MOST_READINGS];
        private final int[][] cost = new int[MOST_BYTES + 1][LETTER_CODES];
        private final long[][] ways = new long[MOST_BYTES + 1][LETTER_CODES];
        private final int[][] exactCost = new int[MOST_BYTES + 1][MOST_ENTRY_LETTERS + 1];
        private int readingCount = 0;
        private int shut = NONE;

        /** Takes the table's READINGS as they weigh now, all but the one that is shut. */
        void prepare(Table table, Marks marks, int shutReading) {
            readingCount = table.readingCount;
            shut = shutReading;
            for (int r = 0; r < readingCount; r++) {
                readings[r] = table.readings[r];
                price[r] = marks.weightNow(r, table.habit);
            }
        }

        int leastCost() {
            return cost[0][NOTHING];
        }

        long allWays() {
            return ways[0][NOTHING];
        }

        void weighOpenings(Page page, int w) {
            int size = page.size[w];
            for (int last = 0; last < LETTER_CODES; last++) {
                cost[size][last] = 0;
                ways[size][last] = 1;
            }
            for (int at = size - 1; at >= 0; at--) {
                int code = page.code[w][at];
                for (int last = 0; last < LETTER_CODES; last++) {
                    if (code == SIGN_CODE) {
                        weighSign(at, last, page.sign[w][at], page.code[w][at + 1]);
                    } else {
                        cost[at][last] = cost[at + 1][code];
                        ways[at][last] = ways[at + 1][code];
                    }
                }
            }
        }

        private void weighSign(int at, int last, int sign, int next) {
            int least = FAR;
            long all = 0;
            for (int r = 0; r < readingCount; r++) {
                if (suits(r, sign, last, next)) {
                    int after = readings[r].codeAfter(last);
                    least = Math.min(least, price[r] + cost[at + 1][after]);
                    all += ways[at + 1][after];
                }
            }
            cost[at][last] = least;
            ways[at][last] = all;
        }

        private boolean suits(int r, int sign, int last, int next) {
            Reading reading = readings[r];
            return reading.sign == sign && r != shut
                && (reading.behindCodes >> last & 1) == 1 && (reading.aheadCodes >> next & 1) == 1;
        }

        /** Goes along LEAST of the WORD that has been weighed. */
        void walkLeast(Page page, int w) {
            steps = 0;
            opened = 0;
            if (leastCost() >= FAR) {
                return;
            }
            int last = NOTHING;
            for (int at = 0; at < page.size[w]; at++) {
                if (page.code[w][at] != SIGN_CODE) {
                    put(page.bytes[w][at]);
                    last = page.code[w][at];
                    continue;
                }
                int r = firstLeast(at, last, page.sign[w][at], page.code[w][at + 1]);
                if (r < 0) {
                    return;
                }
                path[steps] = r;
                steps++;
                for (int i = 0; i < readings[r].size; i++) {
                    put(readings[r].letters[i]);
                }
                last = readings[r].codeAfter(last);
            }
        }

        private void put(int letter) {
            if (opened < MOST_OPENED) {
                letters[opened] = letter;
                opened++;
            }
        }

        private int firstLeast(int at, int last, int sign, int next) {
            for (int r = 0; r < readingCount; r++) {
                if (suits(r, sign, last, next)
                    && price[r] + cost[at + 1][readings[r].codeAfter(last)] == cost[at][last]) {
                    return r;
                }
            }
            return NONE;
        }

        /** COST of EXACT, FAR if there is none. */
        int weighExact(Page page, int w, Entry entry) {
            int size = page.size[w];
            for (int from = 0; from <= entry.size; from++) {
                exactCost[size][from] = from == entry.size ? 0 : FAR;
            }
            for (int at = size - 1; at >= 0; at--) {
                int code = page.code[w][at];
                for (int from = 0; from <= entry.size; from++) {
                    if (code == SIGN_CODE) {
                        weighExactSign(page, w, at, entry, from);
                    } else {
                        boolean same = from < entry.size && entry.letters[from] == page.bytes[w][at];
                        exactCost[at][from] = same ? exactCost[at + 1][from + 1] : FAR;
                    }
                }
            }
            return exactCost[0][0];
        }

        private void weighExactSign(Page page, int w, int at, Entry entry, int from) {
            int last = entry.codeAt(from - 1);
            int least = FAR;
            for (int r = 0; r < readingCount; r++) {
                if (suits(r, page.sign[w][at], last, page.code[w][at + 1]) && readings[r].standsIn(entry, from)) {
                    least = Math.min(least, price[r] + exactCost[at + 1][from + readings[r].size]);
                }
            }
            exactCost[at][from] = least;
        }

        void walkExact(Page page, int w, Entry entry) {
            steps = 0;
            if (weighExact(page, w, entry) >= FAR) {
                return;
            }
            int from = 0;
            for (int at = 0; at < page.size[w]; at++) {
                if (page.code[w][at] != SIGN_CODE) {
                    from++;
                    continue;
                }
                int r = firstExact(page, w, at, entry, from);
                if (r < 0) {
                    return;
                }
                path[steps] = r;
                steps++;
                from += readings[r].size;
            }
        }

        private int firstExact(Page page, int w, int at, Entry entry, int from) {
            int last = entry.codeAt(from - 1);
            for (int r = 0; r < readingCount; r++) {
                if (suits(r, page.sign[w][at], last, page.code[w][at + 1]) && readings[r].standsIn(entry, from)
                    && price[r] + exactCost[at + 1][from + readings[r].size] == exactCost[at][from]) {
                    return r;
                }
            }
            return NONE;
        }
    }

    /** The CHOICES of each WORD of a page, and what they are made from. */
    private static final class Choices {
        final long[] ways = new long[MOST_WORDS];
        final int[] leastCost = new int[MOST_WORDS];
        final int[] leastSize = new int[MOST_WORDS];
        final int[][] leastLetters = new int[MOST_WORDS][MOST_OPENED];
        final int[][] exactCost = new int[MOST_WORDS][MOST_ENTRIES];
        final int[] fitting = new int[MOST_WORDS];
        final int[] size = new int[MOST_WORDS];
        final int[][] who = new int[MOST_WORDS][MOST_ENTRIES];
        final int[][] cost = new int[MOST_WORDS][MOST_ENTRIES];
        int words = 0;

        void fill(Table table, Page page, Opener opener, int[] candidates) {
            words = page.words;
            for (int w = 0; w < words; w++) {
                takeLeast(page, opener, w);
                takeEntries(table, page, opener, w, candidates[w]);
                if (size[w] == 0 && leastCost[w] < FAR) {
                    add(w, STRANGE, leastCost[w] + table.strange);
                }
                if (size[w] == 0) {
                    add(w, DARK, 2 * table.strange);
                }
            }
        }

        private void takeLeast(Page page, Opener opener, int w) {
            opener.weighOpenings(page, w);
            opener.walkLeast(page, w);
            leastCost[w] = opener.leastCost();
            ways[w] = opener.allWays();
            leastSize[w] = opener.opened;
            for (int i = 0; i < opener.opened; i++) {
                leastLetters[w][i] = opener.letters[i];
            }
        }

        private void takeEntries(Table table, Page page, Opener opener, int w, int candidates) {
            size[w] = 0;
            fitting[w] = 0;
            for (int e = 0; e < table.entryCount; e++) {
                boolean mayFit = (candidates >> e & 1) == 1;
                int found = mayFit ? opener.weighExact(page, w, table.entries[e]) : FAR;
                exactCost[w][e] = found;
                if (found < FAR) {
                    fitting[w] |= 1 << e;
                    add(w, e, found);
                }
            }
        }

        private void add(int w, int whom, int itsCost) {
            int place = size[w];
            if (place < MOST_ENTRIES) {
                who[w][place] = whom;
                cost[w][place] = itsCost;
                size[w] = place + 1;
            }
        }

        int placeOf(int w, int whom) {
            for (int place = 0; place < size[w]; place++) {
                if (who[w][place] == whom) {
                    return place;
                }
            }
            return NONE;
        }
    }

    /** The READINGS OF THE PAGE: what the least cost, by each CHOICE, and how many there are. */
    private static final class Paths {
        final int[] place = new int[MOST_WORDS];
        int least = 0;
        long all = 1;
        // Both of them with the CHOICE's own cost; FAR where no READING OF THE PAGE goes.
        private final int[][] upTo = new int[MOST_WORDS][MOST_ENTRIES];
        private final int[][] from = new int[MOST_WORDS][MOST_ENTRIES];
        private final long[][] ways = new long[MOST_WORDS][MOST_ENTRIES];

        void fill(Table table, Choices choices, int[] fixed) {
            for (int w = choices.words - 1; w >= 0; w--) {
                int held = choices.placeOf(w, fixed[w]);
                for (int p = 0; p < choices.size[w]; p++) {
                    goBack(table, choices, w, p, held < 0 || held == p);
                }
            }
            for (int w = 0; w < choices.words; w++) {
                int held = choices.placeOf(w, fixed[w]);
                for (int p = 0; p < choices.size[w]; p++) {
                    goOn(table, choices, w, p, held < 0 || held == p);
                }
            }
            sumUp(choices);
            choose(table, choices);
        }

        private void goBack(Table table, Choices choices, int w, int p, boolean allowed) {
            int rest = FAR;
            long sum = 0;
            if (w + 1 >= choices.words) {
                rest = 0;
                sum = 1;
            } else {
                for (int q = 0; q < choices.size[w + 1]; q++) {
                    int joint = table.joint(choices.who[w][p], choices.who[w + 1][q]);
                    if (joint < FAR) {
                        rest = Math.min(rest, joint + from[w + 1][q]);
                        sum += ways[w + 1][q];
                    }
                }
            }
            from[w][p] = allowed ? Math.min(FAR, rest + choices.cost[w][p]) : FAR;
            ways[w][p] = allowed ? sum : 0;
        }

        private void goOn(Table table, Choices choices, int w, int p, boolean allowed) {
            int before = FAR;
            if (w == 0) {
                before = 0;
            } else {
                for (int q = 0; q < choices.size[w - 1]; q++) {
                    int joint = table.joint(choices.who[w - 1][q], choices.who[w][p]);
                    before = Math.min(before, joint + upTo[w - 1][q]);
                }
            }
            upTo[w][p] = allowed ? Math.min(FAR, before + choices.cost[w][p]) : FAR;
        }

        private void sumUp(Choices choices) {
            if (choices.words == 0) {
                least = 0;
                all = 1;
                return;
            }
            least = FAR;
            all = 0;
            for (int p = 0; p < choices.size[0]; p++) {
                least = Math.min(least, from[0][p]);
                all += ways[0][p];
            }
        }

        /** Takes for each WORD the first place that still costs least: that is BEST. */
        private void choose(Table table, Choices choices) {
            int left = least;
            int ahead = STRANGE;
            for (int w = 0; w < choices.words; w++) {
                place[w] = 0;
                for (int p = choices.size[w] - 1; p >= 0; p--) {
                    if (table.joint(ahead, choices.who[w][p]) + from[w][p] == left) {
                        place[w] = p;
                    }
                }
                left = from[w][place[w]] - choices.cost[w][place[w]];
                ahead = choices.who[w][place[w]];
            }
        }

        /** The least cost with this CHOICE of this WORD, FAR if there is none. */
        int through(Choices choices, int w, int p) {
            if (upTo[w][p] >= FAR || from[w][p] >= FAR) {
                return FAR;
            }
            return upTo[w][p] + from[w][p] - choices.cost[w][p];
        }

        /** The least cost with another CHOICE of this WORD than BEST's, FAR if there is none. */
        int leastOther(Choices choices, int w) {
            int other = FAR;
            if (least >= FAR) {
                return FAR;
            }
            for (int p = 0; p < choices.size[w]; p++) {
                if (p != place[w]) {
                    other = Math.min(other, through(choices, w, p));
                }
            }
            return other;
        }
    }

    /**
     * Finds SHORT. A state is how many letters stand and the READING that was last
     * (0 for none), for what that one wants ahead binds the next byte.
     */
    private static final class Shortener {
        private static final int LASTS = MOST_READINGS + 1;
        private static final int STATES = (MOST_ENTRY_LETTERS + 1) * LASTS;

        final int[] bytes = new int[MOST_ENTRY_LETTERS];
        int size = 0;
        int solved = NONE;
        // 1 where just so many bytes more can end the ENTRY.
        private final int[][] ends = new int[MOST_ENTRY_LETTERS + 1][STATES];
        private boolean[] here = new boolean[STATES];
        private boolean[] there = new boolean[STATES];

        void solve(Table table, int entry) {
            if (solved == entry) {
                return;
            }
            Entry word = table.entries[entry];
            size = 0;
            findEnds(table, word);
            while (size < word.size && ends[size][0] == 0) {
                size++;
                findMore(table, word, size);
            }
            spell(table, word);
            solved = entry;
        }

        private void findEnds(Table table, Entry word) {
            for (int from = 0; from <= word.size; from++) {
                for (int last = 0; last <= table.readingCount; last++) {
                    boolean done = from == word.size && isIn(aheadOf(table, last), NOTHING);
                    ends[0][from * LASTS + last] = done ? 1 : 0;
                }
            }
        }

        private void findMore(Table table, Entry word, int more) {
            for (int from = 0; from <= word.size; from++) {
                for (int last = 0; last <= table.readingCount; last++) {
                    int state = from * LASTS + last;
                    ends[more][state] = 0;
                    for (int by = 0; by <= table.readingCount; by++) {
                        int next = stateAfter(table, word, state, by);
                        if (next >= 0 && ends[more - 1][next] == 1) {
                            ends[more][state] = 1;
                        }
                    }
                }
            }
        }

        /** Keeps all states that the bytes so far can lead to, for one WORD may have many OPENINGS. */
        private void spell(Table table, Entry word) {
            clear(here);
            here[0] = true;
            for (int k = 0; k < size; k++) {
                int left = size - 1 - k;
                int first = firstByte(table, word, left);
                bytes[k] = first;
                clear(there);
                for (int state = 0; state < STATES; state++) {
                    for (int by = 0; by <= table.readingCount && here[state]; by++) {
                        int next = stateAfter(table, word, state, by);
                        if (next >= 0 && ends[left][next] == 1 && byteOf(table, word, state, by) == first) {
                            there[next] = true;
                        }
                    }
                }
                boolean[] old = here;
                here = there;
                there = old;
            }
        }

        private int firstByte(Table table, Entry word, int left) {
            int first = 255;
            for (int state = 0; state < STATES; state++) {
                for (int by = 0; by <= table.readingCount && here[state]; by++) {
                    int next = stateAfter(table, word, state, by);
                    if (next >= 0 && ends[left][next] == 1) {
                        first = Math.min(first, byteOf(table, word, state, by));
                    }
                }
            }
            return first;
        }

        /** The state behind one byte more: by 0 the ENTRY's own letter, else READING by - 1; NONE if that can't be. */
        private int stateAfter(Table table, Entry word, int state, int by) {
            int from = state / LASTS;
            int wanted = aheadOf(table, state % LASTS);
            if (by == 0) {
                int code = word.codeAt(from);
                return code != NOTHING && isIn(wanted, code) ? (from + 1) * LASTS : NONE;
            }
            Reading reading = table.readings[by - 1];
            boolean fits = isIn(wanted, SIGN_CODE) && isIn(reading.behindCodes, word.codeAt(from - 1))
                && reading.standsIn(word, from);
            return fits ? (from + reading.size) * LASTS + by : NONE;
        }

        private static int byteOf(Table table, Entry word, int state, int by) {
            return by == 0 ? word.letterAt(state / LASTS) : SIGNS.charAt(table.readings[by - 1].sign);
        }

        private static int aheadOf(Table table, int last) {
            return last == 0 ? ALL_CODES : table.readings[last - 1].aheadCodes;
        }

        private static void clear(boolean[] states) {
            for (int state = 0; state < STATES; state++) {
                states[state] = false;
            }
        }
    }
}
