import java.util.NoSuchElementException;

/** For each sentence of the document's promises that names a boundary or a refused call: what lies just inside, and what just outside. */
public final class PromiseBoundaryTest {
    static final int LEAST = -2147483648;
    static final int MOST = 2147483647;

    // Of 24 READINGS: 0 and 1 open ~ to e, 2 to a behind a consonant, 3 opens & at the end of the WORD that it begins.
    static final String TEXT = "open ~ e any any 5;open ~ e any any 4;open ~ a cons any 9;open & et start end 2;"
        + "word ne conj 1;word na noun 2;word net verb 3;word et conj 0;strange 100;habit 2;";
    // By places: ne 4 and na 9; STRANGE; DARK; et.
    static final String PAGE = "n~ xx a& &";
    // Two ways to read each WORD alone, none to read both.
    static final String APART = "open ~ b any any 1;open ~ c any any 1;word b noun 1;word b noun 2;word c verb 1;word c verb 2;agree noun verb;";

    interface Asked {
        long at(int i);
    }

    static void says(String words) {
        Check.says(words);
    }

    static void due(String call, long got, long want) {
        Check.due(call, got, want);
    }

    static ShortForms with(String text, String page) {
        ShortForms x = new ShortForms();
        due("text of " + text, Tape.text(x, text), text.split(";", -1).length - 1);
        due("page of " + page, Tape.page(x, page), page.isBlank() ? 0 : page.strip().split("[ \n]+").length);
        return x;
    }

    static ShortForms base() {
        return with(TEXT, PAGE);
    }

    /** A page of which there is no READING, but five WORDS. */
    static ShortForms hopeless() {
        ShortForms x = with(APART, "b c ~ ^ b");
        x.fix(0, 0);
        x.fix(1, 1);
        return x;
    }

    static ShortForms full(String page) {
        return with("open ~ b any any 1;".repeat(24) + "word b noun 1;".repeat(24), page);
    }

    /** Numbers below 0 and from count on. */
    static int[] beyond(int count) {
        return new int[] {LEAST, LEAST + 1, -1000000, -3, -2, -1, count, count + 1, count + 32, 1000, 65536, MOST - 1, MOST};
    }

    static void beyondIs(String call, int count, long want, Asked asked) {
        for (int i : beyond(count)) {
            due(call + " of " + i, asked.at(i), want);
        }
    }

    static void newObject() {
        says("No READINGS, no ENTRIES, a PAGE without WORDS; an empty TAPE.");
        ShortForms x = new ShortForms();
        due("tape", x.count(7), 0);
        due("text of more than the tape has", x.text(1), -2);
        due("page of more than the tape has", x.page(1), -2);
        due("best", x.best(), 0);
        due("readings", x.readings(), 1);
        due("by chance", x.chance(-1, 100, 0), 100);
        due("by chance", x.chance(-1, 1, 1), 0);
        due("sure", x.sure(), 0);
        due("second", x.second(), -2);
        due("opened", x.opened(0), -2);
        beyondIs("reading", 0, -1, i -> x.letter(true, i, 0));
        beyondIs("entry", 0, -1, i -> x.entry(i, 0));
        beyondIs("word", 0, -1, i -> x.written(i, 0));
        beyondIs("choice", 0, -9, i -> x.choice(i, 0, 0));
        due("text of nothing", x.text(0), 0);
        due("page of nothing", x.page(0), 0);
        ShortForms y = new ShortForms();
        due("a page before any text", Tape.page(y, "b ~"), 2);
        due("strange and dark, by 500", y.best(), 1500);
        due("openings", y.openings(1), 0);
    }

    static void feed() {
        says("Twenty bytes come behind the TAPE, four of each number, the highest first");
        ShortForms x = new ShortForms();
        due("feed", x.feed(0x62636466, 0x6768696a, 0x6b206c6d, 0x6e6f7071, 0x72737475), 20);
        due("page", x.page(20), 2);
        String[] words = {"bcdfghijk", "lmnopqrstu"};
        for (int w = 0; w < 2; w++) {
            for (int i = 0; i < words[w].length(); i++) {
                due("byte", x.written(w, i), words[w].charAt(i));
            }
        }
        for (int place = 0; place < 20; place++) {
            int[] v = {0x20202020, 0x20202020, 0x20202020, 0x20202020, 0x20202020};
            v[place / 4] |= 255 << 24 - place % 4 * 8;
            x.feed(v[0], v[1], v[2], v[3], v[4]);
            due("page with a byte 255", x.page(20), -1);
            due("its place", x.fault(1), place);
        }
        says("how many it has; NONE, and none come, if it would have more than 900");
        for (int k = 1; k <= 45; k++) {
            due("feed", x.feed(0x20202020, 0x20202020, 0x20202020, 0x20202020, 0x20202020), 20 * k);
        }
        due("feed beyond", x.feed(-1, -1, -1, -1, -1), -1);
        due("feed beyond again", x.feed(-1, -1, -1, -1, -1), -1);
        due("tape", x.count(7), 900);
        due("more than 900", x.page(901), -2);
        due("900", x.page(900), 0);
        due("it is empty then", x.count(7), 0);
        due("feed anew", x.feed(0, 0, 0, 0, 0), 20);
        says("a TEXT of 900 bytes");
        String text = "seed 1;" + " ".repeat(878) + "seed 2;" + "strange;";
        due("at the 893rd: told already", Tape.text(new ShortForms(), text), -1);
        due("900 in all", text.length(), 900);
        text = "strange 7;" + "\n".repeat(882) + "habit 3;";
        ShortForms y = new ShortForms();
        due("two lines", Tape.text(y, text), 2);
        due("the last byte counts", y.count(4), 3);
    }

    static void text() {
        says("The TAPE's first n bytes (it is empty then) are the TEXT");
        ShortForms x = new ShortForms();
        Tape.feed(x, "strange 77;habit 9;", ' ');
        due("the first eleven", x.text(11), 1);
        due("strange", x.count(3), 77);
        due("habit", x.count(4), 0);
        due("it is empty then", x.count(7), 0);
        Tape.feed(x, "strange 778;", ' ');
        due("of a number", x.text(10), -1);
        due("the length", x.fault(1), 10);
        due("it is empty then, too", x.count(7), 0);
        Tape.feed(x, "seed", 'x');
        due("of a word: see", x.text(3), -1);
        due("a token that is none", x.fault(1), 0);
        Tape.feed(x, "seed", 'x');
        due("of a word: seed", x.text(4), -1);
        due("the length", x.fault(1), 4);
        Tape.feed(x, "habit 5;", '5');
        due("all of it", x.text(8), 1);
        due("habit", x.count(4), 5);
        Tape.feed(x, "habit 5;", '5');
        due("none of it", x.text(0), 0);
        due("habit", x.count(4), 0);
        due("it is empty then", x.count(7), 0);
        says("-2, and the TAPE stays: there are not so many, n is below 0");
        ShortForms y = base();
        due("a text with a fault", Tape.text(y, "habit;"), -1);
        Tape.feed(y, "seed 5;", '?');
        beyondIs("text", 21, -2, n -> y.text(n));
        beyondIs("page", 21, -2, n -> y.page(n));
        due("the tape stays", y.count(7), 20);
        due("the fault stays", y.fault(0), 1);
        due("its place stays", y.fault(1), 5);
        due("all of the tape", y.text(20), -1);
        due("its fault", y.fault(1), 7);
        unchanged(y);
        Tape.feed(y, "bc ", '?');
        due("all of the tape", y.page(20), -1);
        due("its fault", y.fault(1), 3);
        unchanged(y);
        says("(HABITS 0, a PAGE without WORDS, nothing to undo, no IMAGE): how many LINES");
        y.learn();
        y.fix(0, 1);
        y.keep();
        due("text", Tape.text(y, TEXT), 10);
        due("habits", y.count(5), 0);
        due("count", y.open(1, 5), 0);
        due("words", y.count(2), 0);
        due("none is fixed", y.fixed(), 0);
        due("nothing to undo", y.count(6), 0);
        due("none could", y.undo(), -1);
        due("no image", y.back(), -1);
        due("best", y.best(), 0);
    }

    static void unchanged(ShortForms y) {
        due("readings", y.count(0), 4);
        due("entries", y.count(1), 4);
        due("words", y.count(2), 4);
        due("strange", y.count(3), 100);
        due("habit", y.count(4), 2);
        due("best", y.best(), 4 + 100 + 200 + 2);
    }

    static void fault() {
        says("NONE for another what (of fault)");
        ShortForms x = new ShortForms();
        beyondIs("fault", 2, -1, what -> x.fault(what));
        due("no fault yet", x.fault(0), 0);
        due("without", x.fault(1), -1);
        Tape.text(x, "?");
        beyondIs("fault", 2, -1, what -> x.fault(what));
        due("fault", x.fault(0), 1);
        due("place", x.fault(1), 0);
        says("Of the latest text(), page() that was not -2");
        x.text(1);
        x.page(-1);
        due("fault", x.fault(0), 1);
        x.text(0);
        due("of a text without", x.fault(0), 0);
        due("of a text without", x.fault(1), -1);
        Tape.page(x, "b ?");
        due("of a page", x.fault(1), 2);
        x.text(21);
        due("of a page yet", x.fault(1), 2);
        x.page(0);
        due("of a page without", x.fault(1), -1);
    }

    /** 0: nothing thrown, 1: IndexOutOfBoundsException, 2: NoSuchElementException; just these, none below them. */
    static int thrown(ShortForms x, int reading, int what) {
        try {
            x.open(reading, what);
            return 0;
        } catch (IndexOutOfBoundsException e) {
            return e.getClass() == IndexOutOfBoundsException.class ? 1 : 3;
        } catch (NoSuchElementException e) {
            return e.getClass() == NoSuchElementException.class ? 2 : 4;
        }
    }

    static void open() {
        says("IndexOutOfBoundsException: no such READING.");
        ShortForms none = new ShortForms();
        ShortForms x = base();
        ShortForms full = full("b");
        for (int what = 0; what < 7; what++) {
            int w = what;
            beyondIs("of none, " + what, 0, 1, r -> thrown(none, r, w));
            beyondIs("of four, " + what, 4, 1, r -> thrown(x, r, w));
            beyondIs("of 24, " + what, 24, 1, r -> thrown(full, r, w));
            due("the first", thrown(x, 0, what), 0);
            due("the last", thrown(x, 3, what), 0);
            due("the last of 24", thrown(full, 23, what), 0);
        }
        says("NoSuchElementException: no such what.");
        beyondIs("what", 7, 2, what -> thrown(x, 0, what));
        beyondIs("what", 7, 2, what -> thrown(full, 23, what));
        says("no such READING and no such what");
        beyondIs("what", 7, 1, what -> thrown(x, 4, what));
        beyondIs("what", 7, 1, what -> thrown(none, 0, what));
        Tape.text(x, "open ~ b any any 1;");
        due("one of an older text", thrown(x, 1, 4), 1);
    }

    static void tableAndPage() {
        ShortForms x = base();
        says("NONE: no such ones (of entry)");
        beyondIs("entry", 4, -1, e -> x.entry(e, 0));
        beyondIs("entry's what", 3, -1, what -> x.entry(3, what));
        says("Letter i (0 on) of R of a READING, or of an ENTRY; -2: it has not so many; NONE: no such ones");
        beyondIs("reading", 4, -1, r -> x.letter(true, r, 0));
        beyondIs("entry", 4, -1, e -> x.letter(false, e, 0));
        says("Byte i (0 on) of a WORD; -2: it has not so many; NONE: no such ones");
        beyondIs("word", 4, -1, w -> x.written(w, 0));
        for (int i : beyond(3)) {
            says("letter i of R, beyond it on either side");
            due("of two letters, at " + i, x.letter(true, 3, i), i < 0 ? -1 : -2);
            says("letter i of an ENTRY, beyond it on either side");
            due("of three letters, at " + i, x.letter(false, 2, i), i < 0 ? -1 : -2);
            says("byte i of a WORD, beyond it on either side");
            due("of two bytes, at " + i, x.written(0, i), i < 0 ? -1 : -2);
        }
        says("letter i just beyond");
        due("the second of et", x.letter(true, 3, 1), 't');
        due("the third of et", x.letter(true, 3, 2), -2);
        due("the third of net", x.letter(false, 2, 2), 't');
        due("the second of n~", x.written(0, 1), '~');
        due("the third of n~", x.written(0, 2), -2);
        says("no such ones, of 24 READINGS, 24 ENTRIES, ten WORDS");
        ShortForms full = full("b c d e f g h i j k");
        due("reading 23", full.letter(true, 23, 0), 'b');
        due("entry 23", full.letter(false, 23, 0), 'b');
        due("entry 23", full.entry(23, 0), 1);
        due("word 9", full.written(9, 0), 'k');
        beyondIs("reading", 24, -1, r -> full.letter(true, r, 0));
        beyondIs("entry", 24, -1, e -> full.letter(false, e, 0));
        beyondIs("entry", 24, -1, e -> full.entry(e, 2));
        beyondIs("word", 10, -1, w -> full.written(w, 0));
        says("letters of an older, longer one are not answered");
        ShortForms y = new ShortForms();
        for (int k = 0; k < 3; k++) {
            Tape.text(y, "open ~ bcdfgh any any 1;word bcdfghjk noun 1;");
            Tape.page(y, "bcdfghjklm");
        }
        Tape.text(y, "open ~ bc any any 1;word b noun 1;");
        Tape.page(y, "b");
        due("of R", y.letter(true, 0, 2), -2);
        due("of an entry", y.letter(false, 0, 1), -2);
        due("of a word", y.written(0, 1), -2);
        olderOnes();
    }

    /** What is read is held in rows that have been used before. */
    static void olderOnes() {
        says("a WORD's end, where an older, longer one goes on");
        ShortForms x = new ShortForms();
        Tape.text(x, "open ~ b any end 1;open ~ c any vowel 1;open ~ d any sign 1;open ~ f any cons 1;word b noun 1;word q noun 1;");
        for (String older : new String[] {"bqqq", "baaa", "b~~~", "bbbb"}) {
            for (int k = 0; k < 3; k++) {
                due("older page", Tape.page(x, older + " b"), 2);
            }
            due("fits of the second, b", x.fits(1), 1);
            due("page", Tape.page(x, "~ q"), 2);
            due("openings at the end", x.openings(0), 1);
            due("least", x.leastLetter(0, 0), 'b');
            due("exact", x.exact(0, 0), 1);
            due("fits of the second, q", x.fits(1), 2);
        }
        says("an ENTRY's end, where an older, longer one goes on");
        ShortForms y = new ShortForms();
        for (int k = 0; k < 3; k++) {
            Tape.text(y, "word bcd noun 1;open ^ x any any 1;");
            Tape.page(y, "bcd bc~");
            due("exact", y.exact(0, 0), 0);
            due("short", y.shortest(0), 3);
        }
        for (int k = 0; k < 2; k++) {
            Tape.text(y, "word bc noun 1;open # bc any d 1;open ~ d any any 1;");
            Tape.page(y, "bcd bc~ bc");
            due("exact of bcd", y.exact(0, 0), -2);
            due("exact of bc~", y.exact(1, 0), -2);
            due("exact of bc", y.exact(2, 0), 0);
            due("short", y.shortest(0), 2);
            due("its first byte", y.shortByte(0, 0), 'b');
        }
    }

    static void openings() {
        says("How many OPENINGS a WORD has, 1000000000000 at most");
        due("15 ten times", with("open ~ b any any 1;".repeat(15), "~~~~~~~~~~").openings(0), 576650390625L);
        due("21 nine times", with("open ~ b any any 1;".repeat(21), "~~~~~~~~~").openings(0), 794280046581L);
        String seven = "open ~ b any any 1;".repeat(17) + "open ^ b any any 1;".repeat(7);
        due("17 nine times, 7 once", with(seven, "~~~~~~~~~^").openings(0), 830115135479L);
        String six = "open ~ b any any 1;".repeat(18) + "open ^ b any any 1;".repeat(6);
        due("18 nine times, 6 once", with(six, "~~~~~~~~~^").openings(0), 1000000000000L);
        due("16 ten times", with("open ~ b any any 1;".repeat(16), "~~~~~~~~~~").openings(0), 1000000000000L);
        due("24 ten times", full("~~~~~~~~~~").openings(0), 1000000000000L);
        ShortForms x = base();
        says("NONE: no such WORD (openings, least, choices, fits)");
        beyondIs("openings", 4, -1, w -> x.openings(w));
        beyondIs("least", 4, -1, w -> x.least(w));
        beyondIs("choices", 4, -1, w -> x.choices(w));
        beyondIs("fits", 4, -1, w -> x.fits(w));
        says("-2: it has no OPENING (least, leastLetter)");
        due("openings", x.openings(2), 0);
        due("least", x.least(2), -2);
        due("letter", x.leastLetter(2, 0), -2);
        due("far letter", x.leastLetter(2, MOST), -2);
        due("of one without a sign", x.least(1), 0);
        says("-2: it has not so many (leastLetter); NONE: no such ones");
        beyondIs("word", 4, -1, w -> x.leastLetter(w, 0));
        for (int i : beyond(2)) {
            due("of two letters, at " + i, x.leastLetter(0, i), i < 0 ? -1 : -2);
        }
        ShortForms longest = with("open ~ bcdfgh any any 1;", "~~~~~~~~~~");
        due("the sixtieth", longest.leastLetter(0, 59), 'h');
        due("the 61st", longest.leastLetter(0, 60), -2);
        Tape.page(longest, "~");
        due("the sixth", longest.leastLetter(0, 5), 'h');
        due("the seventh", longest.leastLetter(0, 6), -2);
        Tape.page(longest, "^");
        due("of none, behind one of six", longest.leastLetter(0, 0), -2);
    }

    static void exact() {
        ShortForms x = base();
        says("-2: there is none (exact, exactBy)");
        due("ne", x.exact(0, 0), 4);
        due("net", x.exact(0, 2), -2);
        due("of dark", x.exact(2, 0), -2);
        due("by", x.exactBy(0, 2, 0), -2);
        due("by, far", x.exactBy(2, 0, MOST), -2);
        says("NONE: no such ones (exact, exactBy)");
        beyondIs("word", 4, -1, w -> x.exact(w, 0));
        beyondIs("entry", 4, -1, e -> x.exact(0, e));
        beyondIs("word", 4, -1, w -> x.exactBy(w, 0, 0));
        beyondIs("entry", 4, -1, e -> x.exactBy(0, e, 0));
        says("The k-th READING (0 on) that EXACT takes; -2: it takes not so many");
        for (int k : beyond(1)) {
            due("of one, at " + k, x.exactBy(0, 0, k), k < 0 ? -1 : -2);
        }
        ShortForms ten = with("open ~ b any any 1;open ~ - any any 1;word b noun 1;word bbbbbbbb noun 1;", "~~~~~~~~~~ b");
        for (int k = 0; k < 10; k++) {
            due("of ten, at " + k, ten.exactBy(0, 0, k), k == 0 ? 0 : 1);
            due("of ten, at " + k, ten.exactBy(0, 1, k), k < 8 ? 0 : 1);
        }
        due("of ten, at 10", ten.exactBy(0, 0, 10), -2);
        due("of none", ten.exactBy(1, 0, 0), -2);
        ShortForms full = full("~ b c d e f g h i ~");
        due("entry 23 of word 9", full.exact(9, 23), 1);
        due("by", full.exactBy(9, 23, 0), 0);
        beyondIs("entry of 24", 24, -1, e -> full.exact(9, e));
        beyondIs("word of ten", 10, -1, w -> full.exact(w, 23));
    }

    static void choice() {
        ShortForms x = base();
        says("-9: no such ones (choice)");
        beyondIs("word", 4, -9, w -> x.choice(w, 0, 0));
        beyondIs("place", 2, -9, p -> x.choice(0, p, 0));
        beyondIs("place of strange", 1, -9, p -> x.choice(1, p, 1));
        beyondIs("place of dark", 1, -9, p -> x.choice(2, p, 2));
        beyondIs("what", 3, -9, what -> x.choice(0, 0, what));
        due("the last place", x.choice(0, 1, 0), 1);
        ShortForms full = full("b ~");
        due("24 choices", full.choices(0), 24);
        due("the last", full.choice(1, 23, 0), 23);
        beyondIs("place of 24", 24, -9, p -> full.choice(1, p, 0));
        due("fits, as bits", full.fits(1), 16777215);
    }

    static void best() {
        says("-2: there is no READING OF THE PAGE. (Without WORDS 0.)");
        ShortForms x = hopeless();
        due("best", x.best(), -2);
        x.free(0);
        due("noun 2, verb 2, 1, dark", x.best(), 1001);
        x.fix(0, 0);
        due("no more", x.best(), -2);
        says("-2: there is no BEST (chosen, opened, takes, margin, sure, learn)");
        due("readings", x.readings(), 0);
        due("second", x.second(), -2);
        due("sure", x.sure(), -2);
        due("learn", x.learn(), -2);
        due("no step", x.count(6), 4);
        for (int w = 0; w < 5; w++) {
            due("chosen", x.chosen(w), -2);
            due("margin", x.margin(w), -2);
            due("forced", x.forced(w, 0), -2);
        }
        due("opened", x.opened(0), -2);
        due("opened far", x.opened(MOST), -2);
        due("takes", x.takes(0), -2);
        due("without", x.without(0), -2);
        due("by chance", x.chance(1, 100, 0), 0);
        due("by chance", x.chance(1, 100, 1), -2);
        says("Of several answers that hold NONE goes first, then -2");
        beyondIs("chosen", 5, -1, w -> x.chosen(w));
        beyondIs("margin", 5, -1, w -> x.margin(w));
        beyondIs("takes", 2, -1, r -> x.takes(r));
        beyondIs("without", 2, -1, r -> x.without(r));
        beyondIs("forced", 5, -1, w -> x.forced(w, 0));
        beyondIs("forced", 2, -1, p -> x.forced(0, p));
        due("opened", x.opened(-1), -1);
        due("leastLetter", x.leastLetter(3, -1), -1);
        due("leastLetter", x.leastLetter(5, 0), -1);
        due("exact", x.exact(3, 4), -1);
        due("exactBy", x.exactBy(3, 0, -1), -1);
        due("chance", x.chance(-2, 1, 1), -1);
        due("letter", x.letter(true, 2, 9), -1);
        due("letter", x.letter(false, 4, 9), -1);
        due("written", x.written(5, 9), -1);
        due("shortByte", x.shortByte(4, 9), -1);
        Tape.page(x, "");
        due("without words", x.best(), 0);
        due("which is a reading", x.readings(), 1);
    }

    static void ofBest() {
        ShortForms x = base();
        says("NONE: no such WORD (chosen, margin)");
        beyondIs("chosen", 4, -1, w -> x.chosen(w));
        beyondIs("margin", 4, -1, w -> x.margin(w));
        says("NONE: no such READING (takes, without)");
        beyondIs("takes", 4, -1, r -> x.takes(r));
        beyondIs("without", 4, -1, r -> x.without(r));
        due("the last", x.takes(3), 1);
        due("without the last: dark, too", x.without(3), 4 + 100 + 200 + 200);
        says("Byte i (0 on) of BEST: a blank between two WORDS; -2: there are not so many; NONE: i is below 0");
        String opened = "ne xx  et";
        for (int i = 0; i < opened.length(); i++) {
            due("opened " + i, x.opened(i), opened.charAt(i));
        }
        for (int i : beyond(opened.length())) {
            due("opened " + i, x.opened(i), i < 0 ? -1 : -2);
        }
        openedIs("", "^", "");
        openedIs("", "^ ^", " ");
        openedIs("", "^ b ^", " b ");
        openedIs("open ^ - any any 1;", "^ b ^ ^", " b  ");
        openedIs("", "", "");
        ShortForms longest = with("open ~ bcdfgh any any 1;", "~~~~~~~~~~ ".repeat(10));
        due("the 60th", longest.opened(59), 'h');
        due("the 61st", longest.opened(60), ' ');
        due("the 62nd", longest.opened(61), 'b');
        due("the 609th", longest.opened(608), 'h');
        due("the 610th", longest.opened(609), -2);
        due("takes", longest.takes(0), 100);
        says("How many READINGS OF THE PAGE there are, as many as can be");
        due("24 ten times", full("b b b b b b b b b b").readings(), 63403380965376L);
        due("24 nine times", full("b b b b b b b b b c").readings(), 2641807540224L);
    }

    static void openedIs(String text, String page, String want) {
        ShortForms x = with(text, page);
        for (int i = 0; i < want.length(); i++) {
            due("opened " + i + " of " + page, x.opened(i), want.charAt(i));
        }
        due("behind it", x.opened(want.length()), -2);
    }

    static void forced() {
        says("-2: there is none (it is FIXED to another one, too); NONE: no such ones (forced)");
        ShortForms x = base();
        beyondIs("word", 4, -1, w -> x.forced(w, 0));
        beyondIs("place", 2, -1, p -> x.forced(0, p));
        beyondIs("place of dark", 1, -1, p -> x.forced(2, p));
        due("ne", x.forced(0, 0), 306);
        due("na", x.forced(0, 1), 311);
        x.fix(0, 1);
        due("fixed to another one", x.forced(0, 0), -2);
        due("fixed to it", x.forced(0, 1), 311);
        due("of another word", x.forced(3, 0), 311);
        beyondIs("place of a fixed one", 2, -1, p -> x.forced(0, p));
        ShortForms y = with("word b noun 1;word b noun 2;word c verb 2;word c verb 3;word d adj 3;word d adj 4;"
            + "agree noun verb;agree verb adj;pair noun verb 10;pair verb adj 100;", "b c d");
        int[][] want = {{-2, -2}, {-2, -2}, {-2, -2}};
        for (int w = 0; w < 3; w++) {
            for (int p = 0; p < 2; p++) {
                due("2 3 do not go together", y.forced(w, p), want[w][p]);
            }
        }
        Tape.page(y, "b c");
        due("noun 1 has no verb", y.forced(0, 0), -2);
        due("noun 2", y.forced(0, 1), 10);
        due("verb 2", y.forced(1, 0), 10);
        due("verb 3 has no noun", y.forced(1, 1), -2);
        Tape.page(y, "q c d");
        due("verb 2 has no adj", y.forced(1, 0), -2);
        due("verb 3", y.forced(1, 1), 600);
        due("adj 3", y.forced(2, 0), 600);
        due("adj 4 has no verb", y.forced(2, 1), -2);
        due("strange", y.forced(0, 0), 600);
        says("forced, in the middle of a page: what costs on both sides");
        ShortForms z = with("open ~ c any any 7;open ~ d any any 9;word b noun 1;word c verb 1;word d adj 1;pair noun verb 10;"
            + "pair noun adj 20;pair verb noun 40;pair adj noun 80;", "b ~ b");
        due("c", z.forced(1, 0), 57);
        due("d", z.forced(1, 1), 109);
        due("margin", z.margin(1), 52);
        due("second", z.second(), 109);
        z.fix(0, 0);
        z.fix(2, 0);
        due("c, the others fixed", z.forced(1, 0), 57);
    }

    static void others() {
        says("-2: there is none (margin, second)");
        ShortForms x = base();
        due("margin", x.margin(0), 5);
        due("of strange", x.margin(1), -2);
        due("of dark", x.margin(2), -2);
        due("second", x.second(), 311);
        x.fix(0, 0);
        due("of a fixed one", x.margin(0), -2);
        due("second", x.second(), -2);
        ShortForms y = with("word b noun 1;word b noun 2;word c verb 2;agree noun verb;", "b c");
        due("of one that another forbids", y.margin(0), -2);
        due("second", y.second(), -2);
        says("COST of the least READING OF THE PAGE that is another one than BEST, of the same COST");
        ShortForms z = full("b");
        due("margin", z.margin(0), 0);
        due("second", z.second(), 0);
        says("WORDS, as bits, that have one CHOICE in all READINGS OF THE PAGE of the least COST");
        due("of 24", z.sure(), 0);
        z.fix(0, 23);
        due("fixed", z.sure(), 1);
        due("fixed: no other", z.second(), -2);
        ShortForms ten = full("c c c c c c c c c c");
        due("all ten", ten.sure(), 1023);
        Tape.page(ten, "b c c c c c c c c b");
        due("all but the first and the last", ten.sure(), 510);
        ShortForms one = with("open ~ b any any 1;open ~ c any any 2;open ^ b any any 1;open ^ c any any 1;word b noun 1;word c noun 1;", "~ ^");
        due("1 and 2: sure; 1 and 1: not", one.sure(), 1);
        one.weigh(1, 1);
        due("neither", one.sure(), 0);
    }

    static void without() {
        says("COST of BEST, if a READING of the table were not there (a WORD whose FIXED CHOICE isn't there then is as if it weren't FIXED)");
        ShortForms x = base();
        int[] want = {306, 307, 306, 504};
        for (int r = 0; r < 4; r++) {
            due("without " + r, x.without(r), want[r]);
            due("best stays", x.best(), 306);
            due("choices stay", x.choices(0), 2);
        }
        x.fix(0, 1);
        due("best", x.best(), 311);
        due("without na: as if not fixed", x.without(2), 306);
        due("without ne: fixed yet", x.without(1), 311);
        x.fix(3, 0);
        due("without et: dark, as if not fixed", x.without(3), 509);
        due("fixed yet", x.fixed(), 9);
        due("readings", x.readings(), 1);
        says("without() leaves all as it was, whatever is asked next");
        ShortForms v = base();
        due("without ne", v.without(1), 307);
        due("takes", v.takes(1), 1);
        due("without ne", v.without(1), 307);
        due("by", v.exactBy(0, 0, 0), 1);
        due("without ne", v.without(1), 307);
        due("learn", v.learn(), 2);
        due("of ne", v.open(1, 5), 1);
        says("without, just made anew");
        ShortForms y = base();
        y.weigh(3, 50);
        due("the first question", y.without(0), 354);
        Tape.page(y, "& &");
        due("the first question of a page", y.without(3), 400);
        says("without: -2: there is none");
        ShortForms z = with("open ~ b any any 1;open ~ c any any 5;word b noun 1;word c noun 2;word d noun 2;agree noun noun;", "~ d");
        due("c d", z.best(), 5);
        due("without c: b d do not agree", z.without(1), -2);
        due("without b", z.without(0), 5);
        due("of 24, the last", full("~").without(23), 1);
    }

    static void shorts() {
        says("NONE: no such ENTRY (shortest, shortByte)");
        ShortForms x = base();
        beyondIs("shortest", 4, -1, e -> x.shortest(e));
        beyondIs("shortByte", 4, -1, e -> x.shortByte(e, 0));
        says("Byte i (0 on) of SHORT of an ENTRY; -2: it has not so many; NONE: no such ones");
        due("n~", x.shortest(0), 2);
        due("ne: e is ahead of ~", x.shortByte(0, 1), 'e');
        due("et: &", x.shortest(3), 1);
        for (int i : beyond(1)) {
            due("of one byte, at " + i, x.shortByte(3, i), i < 0 ? -1 : -2);
        }
        ShortForms full = with("open ~ b any any 1;".repeat(24) + "word bcdfghjk noun 1;".repeat(20), "");
        due("of 20, the last", full.shortest(19), 8);
        due("its eighth", full.shortByte(19, 7), 'k');
        due("its ninth", full.shortByte(19, 8), -2);
        beyondIs("of 20", 20, -1, e -> full.shortest(e));
        says("SHORT of the TEXT that was read last");
        Tape.text(full, "word bcdfghjk noun 1;word b noun 1;");
        due("b", full.shortest(1), 1);
        Tape.text(full, "word b noun 1;word bc noun 1;");
        due("bc", full.shortest(1), 2);
        Tape.text(full, "word b noun 1;word bcd noun 1;seed 7;seed");
        due("bc yet", full.shortest(1), 2);
    }

    static void learn() {
        says("LEARNT is the PAGE: how many READINGS BEST takes in all");
        ShortForms x = base();
        due("learn", x.learn(), 2);
        due("the best now: 2 and 0", x.best(), 302);
        says("All COUNTS become 0: how many they were together");
        due("forget", x.forget(), 2);
        due("the best again", x.best(), 306);
        due("forget again", x.forget(), 0);
        due("count", x.count(5), 0);
        due("none of it forgotten as a step", x.count(6), 3);
        due("undo", x.undo(), 2);
        due("undo", x.undo(), 1);
        due("the best after it", x.best(), 302);
        due("counts", x.count(5), 2);
        due("undo", x.undo(), 0);
        due("the best after it", x.best(), 306);
        ShortForms y = with("open ~ b any any 1;", "");
        due("without words", y.learn(), 0);
        due("a step all the same", y.count(6), 1);
        ShortForms z = full("~ ~ ~ ~ ~ ~ ~ ~ ~ ~");
        z.weigh(23, 0);
        due("of 24 the last", z.learn(), 10);
        due("its count", z.open(23, 5), 10);
        due("another's", z.open(0, 5), 0);
        due("forget", z.forget(), 10);
        due("its count", z.open(23, 5), 0);
        z.weigh(0, 0);
        z.learn();
        due("of 24 the first", z.open(0, 5), 10);
        z.forget();
        due("its count", z.open(0, 5), 0);
    }

    static void weigh() {
        says("WEIGHT of a READING becomes v 0 .. 999: what it was; NONE: no such ones");
        ShortForms x = base();
        beyondIs("reading", 4, -1, r -> x.weigh(r, 5));
        beyondIs("v", 1000, -1, v -> x.weigh(0, v));
        due("no step", x.count(6), 0);
        due("nothing changed", x.open(0, 4), 5);
        due("the last to 999", x.weigh(3, 999), 2);
        due("999", x.open(3, 4), 999);
        due("best", x.best(), 4 + 100 + 200 + 999);
        due("to 0", x.weigh(3, 0), 999);
        due("best", x.best(), 304);
        due("to 0 again", x.weigh(3, 0), 0);
        due("three steps", x.count(6), 3);
        ShortForms full = full("~");
        due("of 24 the last", full.weigh(23, 0), 1);
        due("it is the best", full.takes(23), 1);
        beyondIs("reading of 24", 24, -1, r -> full.weigh(r, 5));
    }

    static void fix() {
        says("-9: no such ones (fix)");
        ShortForms x = base();
        beyondIs("word", 4, -9, w -> x.fix(w, 0));
        beyondIs("place", 2, -9, p -> x.fix(0, p));
        beyondIs("place of strange", 1, -9, p -> x.fix(1, p));
        due("no step", x.count(6), 0);
        due("none is fixed", x.fixed(), 0);
        says("A WORD is FIXED to the CHOICE of a place: its ENTRY (-2 STRANGE, -3 DARK)");
        due("na", x.fix(0, 1), 1);
        due("strange", x.fix(1, 0), -2);
        due("dark", x.fix(2, 0), -3);
        due("et", x.fix(3, 0), 3);
        due("all four", x.fixed(), 15);
        due("to another one", x.fix(0, 0), 0);
        due("best", x.best(), 306);
        due("five steps", x.count(6), 5);
        says("A WORD is FIXED no more: 1, if it was, else 0; NONE: no such WORD");
        beyondIs("free", 4, -1, w -> x.free(w));
        due("five steps yet", x.count(6), 5);
        x.fix(0, 1);
        due("na", x.best(), 311);
        due("it was", x.free(0), 1);
        due("ne", x.best(), 306);
        due("it was not", x.free(0), 0);
        due("strange was", x.free(1), 1);
        due("dark was", x.free(2), 1);
        says("WORDS that are FIXED, as bits");
        due("the last one", x.fixed(), 8);
        ShortForms ten = full("~ ~ ~ ~ ~ ~ ~ ~ ~ ~");
        for (int w = 0; w < 10; w++) {
            due("fix the last place", ten.fix(w, 23), 23);
            due("bits", ten.fixed(), (2 << w) - 1);
        }
        due("ten are kept", ten.keep(), 10);
        beyondIs("word of ten", 10, -9, w -> ten.fix(w, 0));
        beyondIs("word of ten", 10, -1, w -> ten.free(w));
        due("free the tenth", ten.free(9), 1);
        due("nine", ten.fixed(), 511);
        due("free the first", ten.free(0), 1);
        due("eight", ten.fixed(), 510);
        due("ten are back", ten.back(), 10);
    }

    static void chance() {
        says("BY CHANCE n 1 .. 100 from a seed 0 .. 2147483647 on (-1: that of the TEXT); NONE: no such ones");
        ShortForms x = base();
        for (int seed : new int[] {-1, 0, 1, MOST - 1, MOST}) {
            due("one from " + seed, x.chance(seed, 1, 0), 1);
            due("a hundred from " + seed, x.chance(seed, 100, 0), 100);
            due("which cost", x.chance(seed, 100, 1), 306);
        }
        for (int seed : new int[] {-2, -3, -1000, LEAST, LEAST + 1}) {
            due("seed " + seed, x.chance(seed, 1, 0), -1);
            due("seed " + seed, x.chance(seed, 1, 1), -1);
        }
        due("n 0", x.chance(0, 0, 0), -1);
        beyondIs("n", 101, -1, n -> x.chance(0, n, 0));
        beyondIs("n", 101, -1, n -> x.chance(0, n, 1));
        beyondIs("what", 2, -1, what -> x.chance(0, 1, what));
        says("1 the least COST of these (-2: none was)");
        ShortForms y = with(APART, "b c");
        // From 1 the draws modulo 2 are 0 0, 1 1, 1 1, ..
        due("0 0 agree", y.chance(1, 1, 0), 1);
        y.fix(1, 1);
        due("0 1 do not", y.chance(1, 1, 0), 0);
        due("none was", y.chance(1, 1, 1), -2);
        due("1 1 do", y.chance(1, 2, 0), 1);
        due("it costs", y.chance(1, 2, 1), 0);
        says("nothing is done by chance()");
        due("no step", y.count(6), 1);
        due("the seed stays", y.chance(-1, 5, 0), y.chance(0, 5, 0));
    }

    static void undo() {
        says("UNDO: how many can be undone yet; NONE: none could");
        ShortForms x = base();
        due("none yet", x.undo(), -1);
        x.weigh(0, 0);
        due("best", x.best(), 302);
        due("one", x.undo(), 0);
        due("best", x.best(), 306);
        due("none could", x.undo(), -1);
        x.keep();
        due("keep is no step", x.undo(), -1);
        x.weigh(0, 0);
        x.back();
        due("nothing to undo behind back()", x.undo(), -1);
        due("nothing has been undone", x.open(0, 4), 5);
        x.weigh(0, 0);
        Tape.page(x, "n~");
        due("nothing to undo behind page()", x.undo(), -1);
        due("nothing has been undone", x.open(0, 4), 0);
        x.weigh(0, 3);
        Tape.text(x, TEXT);
        due("nothing to undo behind text()", x.undo(), -1);
        says("An IMAGE is kept (in place of one ahead): how many WORDS are FIXED");
        ShortForms y = base();
        due("there is none", y.back(), -1);
        due("none fixed", y.keep(), 0);
        y.fix(0, 1);
        due("one fixed", y.keep(), 1);
        y.fix(1, 0);
        due("two fixed", y.fixed(), 3);
        says("All is as in the IMAGE (it stays; nothing to undo then): how many WORDS are FIXED; NONE: there is none");
        due("back", y.back(), 1);
        due("fixed", y.fixed(), 1);
        due("nothing to undo", y.count(6), 0);
        due("it stays", y.back(), 1);
        y.free(0);
        due("best", y.best(), 306);
        due("it stays, whatever is done", y.back(), 1);
        due("best", y.best(), 311);
        y.fix(0, 0);
        y.undo();
        due("it stays, whatever is undone", y.back(), 1);
        due("best", y.best(), 311);
        Tape.page(y, "n~ &");
        due("there is none behind page()", y.back(), -1);
        due("none fixed", y.keep(), 0);
        Tape.text(y, "");
        due("there is none behind text()", y.back(), -1);
    }

    static void count() {
        says("NONE for another what (of count)");
        ShortForms x = base();
        beyondIs("count", 10, -1, what -> x.count(what));
        says("8 WORDS that are DARK, 9 STRANGE ones");
        due("dark", x.count(8), 1);
        due("strange", x.count(9), 1);
        Tape.page(x, "^ ^ ^ ^ ^ ^ ^ ^ ^ ^");
        due("all dark", x.count(8), 10);
        due("none strange", x.count(9), 0);
        Tape.page(x, "q q q q q q q q q q");
        due("all strange", x.count(9), 10);
        due("none dark", x.count(8), 0);
        Tape.page(x, "");
        due("none", x.count(8), 0);
        due("none", x.count(9), 0);
        says("0 READINGS, 1 ENTRIES, 2 WORDS, 5 all COUNTS together, 6 what can be undone, as many as can be");
        ShortForms full = full("~ ~ ~ ~ ~ ~ ~ ~ ~ ~");
        due("readings", full.count(0), 24);
        due("entries", full.count(1), 24);
        due("words", full.count(2), 10);
        for (int r = 0; r < 24; r++) {
            full.weigh(r, 0);
            full.learn();
            full.weigh(r, 2);
        }
        due("counts", full.count(5), 240);
        due("steps", full.count(6), 20);
    }

    public static void main(String[] args) {
        Runnable[] all = {PromiseBoundaryTest::newObject, PromiseBoundaryTest::feed, PromiseBoundaryTest::text,
            PromiseBoundaryTest::fault, PromiseBoundaryTest::open, PromiseBoundaryTest::tableAndPage,
            PromiseBoundaryTest::openings, PromiseBoundaryTest::exact, PromiseBoundaryTest::choice, PromiseBoundaryTest::best,
            PromiseBoundaryTest::ofBest, PromiseBoundaryTest::forced, PromiseBoundaryTest::others, PromiseBoundaryTest::without,
            PromiseBoundaryTest::shorts, PromiseBoundaryTest::learn, PromiseBoundaryTest::weigh, PromiseBoundaryTest::fix,
            PromiseBoundaryTest::chance, PromiseBoundaryTest::undo, PromiseBoundaryTest::count};
        for (Runnable one : all) {
            one.run();
        }
        Check.end("PromiseBoundaryTest");
    }
}
