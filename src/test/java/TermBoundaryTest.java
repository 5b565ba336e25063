import java.util.List;

/** For each sentence of the document's Terms that names a boundary: what lies just inside, and what just outside. */
public final class TermBoundaryTest {
    static final String SIGNS = "~^'&@#%*+=";
    static final String VOWELS = "aeiou";
    static final String LETTERS = "abcdefghijklmnopqrstuvwxyz";
    static final String[] KINDS = {"noun", "verb", "adj", "prep", "conj"};
    static final String[] LANGUAGE = {"open", "word", "agree", "pair", "strange", "habit", "seed", "any", "start", "vowel",
        "cons", "end", "sign", "noun", "verb", "adj", "prep", "conj"};
    // One of each LINE, by its TOKENS.
    static final String[] SHAPES = {"open ~ ab any end 5 ;", "word abc noun 3 ;", "agree adj noun ;", "pair conj prep 7 ;",
        "strange 50 ;", "habit 9 ;", "seed 12345 ;"};

    static void says(String words) {
        Check.says(words);
    }

    static void due(String call, long got, long want) {
        Check.due(call, got, want);
    }

    static ShortForms with(String text, String page) {
        ShortForms x = takes(text, text.split(";", -1).length - 1);
        int words = page.isBlank() ? 0 : page.strip().split("[ \n]+").length;
        due("page of " + page, Tape.page(x, page), words);
        return x;
    }

    static ShortForms takes(String text, int lines) {
        ShortForms x = new ShortForms();
        due("text of " + text, Tape.text(x, text), lines);
        due("fault of " + text, x.fault(0), 0);
        due("place of " + text, x.fault(1), -1);
        return x;
    }

    static void refuses(String text, int fault, int place) {
        ShortForms x = new ShortForms();
        due("text of " + text, Tape.text(x, text), -1);
        due("fault of " + text, x.fault(0), fault);
        due("place of " + text, x.fault(1), place);
    }

    static void pageTakes(String page, int words) {
        ShortForms x = new ShortForms();
        due("page of " + page, Tape.page(x, page), words);
        due("fault of " + page, x.fault(0), 0);
        due("place of " + page, x.fault(1), -1);
    }

    static void pageRefuses(String page, int fault, int place) {
        ShortForms x = new ShortForms();
        due("page of " + page, Tape.page(x, page), -1);
        due("fault of " + page, x.fault(0), fault);
        due("place of " + page, x.fault(1), place);
    }

    /** How many OPENINGS each WORD of a page has. */
    static void openings(String text, String page, int... want) {
        ShortForms x = with(text, page);
        for (int w = 0; w < want.length; w++) {
            due("openings of " + w + " of " + page + " by " + text, x.openings(w), want[w]);
        }
        due("words", x.count(2), want.length);
    }

    static boolean isLetter(int b) {
        return b >= 'a' && b <= 'z';
    }

    static boolean isBlank(int b) {
        return b == 10 || b == 32;
    }

    static void signs() {
        says("S, a SIGN, one of ~ ^ ' & @ # % * + = (0 .. 9)");
        for (int i = 0; i < 10; i++) {
            char sign = SIGNS.charAt(i);
            ShortForms x = with("open " + sign + " a any any 7;", "" + sign);
            due("number of " + sign, x.open(0, 0), i);
            due("on a page", x.written(0, 0), sign);
            due("opened", x.least(0), 7);
        }
        for (int b = 0; b < 256; b++) {
            if (SIGNS.indexOf(b) < 0 && !isBlank(b)) {
                refuses("open " + (char) b + " a any any 1;", 1, 5);
            }
        }
    }

    static void readingLetters() {
        says("R: letters 1 .. 6 small ones, or - (none)");
        String many = "bcdfghjklmnpq";
        for (int n = 1; n <= 6; n++) {
            ShortForms x = takes("open ~ " + many.substring(0, n) + " any any 1;", 1);
            due("letters", x.open(0, 1), n);
            due("the last", x.letter(true, 0, n - 1), many.charAt(n - 1));
            due("behind it", x.letter(true, 0, n), -2);
        }
        for (int n = 7; n <= 13; n++) {
            refuses("open ~ " + many.substring(0, n) + " any any 1;", 1, 7);
        }
        ShortForms x = takes("open ~ - any any 1;", 1);
        due("none", x.open(0, 1), 0);
        due("none", x.letter(true, 0, 0), -2);
        refuses("open ~ -- any any 1;", 1, 8);
        refuses("open ~ B any any 1;", 1, 7);
        refuses("open ~ bC any any 1;", 1, 8);
        refuses("open ~ 1 any any 1;", 1, 7);
        refuses("open ~ ~ any any 1;", 1, 7);
        refuses("open ~;", 1, 6);
    }

    static void conditions() {
        says("B: any | start | vowel | cons | a letter");
        says("A: any | end | vowel | cons | sign | a letter");
        String[] behind = {"any", "start", "vowel", "cons"};
        String[] ahead = {"any", "end", "vowel", "cons"};
        for (int k = 0; k < 4; k++) {
            ShortForms x = takes("open ~ b " + behind[k] + " any 1;open ~ b any " + ahead[k] + " 1;", 2);
            due(behind[k], x.open(0, 2), k);
            due(ahead[k], x.open(1, 3), k);
        }
        due("sign", takes("open ~ b any sign 1;", 1).open(0, 3), 30);
        for (int k = 0; k < 26; k++) {
            char c = LETTERS.charAt(k);
            ShortForms x = takes("open ~ b " + c + " any 1;open ~ b any " + c + " 1;", 2);
            due("behind " + c, x.open(0, 2), 4 + k);
            due("ahead " + c, x.open(1, 3), 4 + k);
        }
        for (String word : LANGUAGE) {
            if (!List.of(behind).contains(word)) {
                refuses("open ~ b " + word + " any 1;", 1, 9);
            }
            if (!List.of(ahead).contains(word) && !word.equals("sign")) {
                refuses("open ~ b any " + word + " 1;", 1, 13);
            }
        }
        for (String other : new String[] {"ab", "-", "~", "5", "A", "an", "anyy", "abcdefghij", ";"}) {
            refuses("open ~ b " + other + " any 1;", 1, 9);
            refuses("open ~ b any " + other + " 1;", 1, 13);
        }
    }

    static void entryWords() {
        says("W: one of 1 .. 8 small letters, none of the words of the language");
        String many = "bcdfghjklmnpq";
        for (int n = 1; n <= 8; n++) {
            ShortForms x = takes("word " + many.substring(0, n) + " noun 1;", 1);
            due("letters", x.entry(0, 0), n);
            due("the last", x.letter(false, 0, n - 1), many.charAt(n - 1));
            due("behind it", x.letter(false, 0, n), -2);
        }
        for (int n = 9; n <= 13; n++) {
            refuses("word " + many.substring(0, n) + " noun 1;", 1, 5);
        }
        for (String word : LANGUAGE) {
            refuses("word " + word + " noun 1;", 1, 5);
            String shorter = word.substring(0, word.length() - 1);
            due(shorter, takes("word " + shorter + " noun 1;", 1).entry(0, 0), word.length() - 1);
            due(word + "s", takes("word " + word + "s noun 1;", 1).entry(0, 0), word.length() + 1);
            due("x" + word, takes("word x" + word + " noun 1;", 1).entry(0, 0), word.length() + 1);
            String other = "x" + word.substring(1);
            due(other, takes("word " + other + " noun 1;", 1).entry(0, 0), word.length());
            refuses(other + " 5;", 1, 0);
        }
        for (String other : new String[] {"-", "~", "5", "B", ";"}) {
            refuses("word " + other + " noun 1;", 1, 5);
        }
        says("A letter (for B, A), R are words of small letters, too, as long as told, and none of the words of the language");
        for (String word : LANGUAGE) {
            refuses("open ~ " + word + " any any 1;", 1, 7);
        }
        due("a word of the language and one letter more", takes("open ~ anys any any 1;", 1).open(0, 1), 4);
    }

    static void kinds() {
        says("K: noun | verb | adj | prep | conj (0 .. 4)");
        for (int k = 0; k < 5; k++) {
            due(KINDS[k], takes("word b " + KINDS[k] + " 1;", 1).entry(0, 1), k);
        }
        for (String word : LANGUAGE) {
            if (!List.of(KINDS).contains(word)) {
                refuses("word b " + word + " 1;", 1, 7);
                refuses("agree " + word + " noun;", 1, 6);
                refuses("pair noun " + word + " 1;", 1, 10);
            }
        }
        refuses("agree nouns noun;", 1, 6);
        refuses("agree noun con;", 1, 11);
        refuses("pair noun 0 1;", 1, 10);
    }

    static void numbers() {
        says("N: digits");
        due("noughts ahead", takes("strange 00000000000000000000000000000999;", 1).count(3), 999);
        refuses("seed ten;", 1, 5);
        refuses("seed;", 1, 4);
        refuses("seed -1;", 1, 5);
        refuses("seed 1 1;", 1, 7);
        says("a number beyond what is said, of any length");
        // 2 to the 32nd, and what is 5 above 2 to the 64th: nothing is left of them if they are held in too few bits.
        for (String big : new String[] {"2147483648", "4294967296", "4294967301", "18446744073709551621", "1".repeat(60)}) {
            refuses("open ~ b any any " + big + ";", 2, 17);
            refuses("word b noun " + big + ";", 2, 12);
            refuses("pair noun noun " + big + ";", 2, 15);
            refuses("strange " + big + ";", 2, 8);
            refuses("habit " + big + ";", 2, 6);
            refuses("seed " + big + ";", 2, 5);
        }
    }

    static void blanks() {
        says("Blanks 10, 32.");
        takes("\n \n seed\n\n \n5 \n ;\n", 1);
        takes("", 0);
        takes(" \n ", 0);
        for (int b = 0; b < 256; b++) {
            if (!isBlank(b) && SIGNS.indexOf(b) < 0 && !isLetter(b) && !(b >= '0' && b <= '9')) {
                refuses((char) b + "seed 5;", 1, 0);
                refuses("seed" + (char) b + " 5;", 1, 4);
                if (b != ';') {
                    refuses("seed 5" + (char) b + ";", 1, 6);
                    refuses("seed 5;" + (char) b, 1, 7);
                }
            }
        }
        pageTakes(" \n\n  b\nc \n d", 3);
    }

    static void manyLines() {
        says("open, at most 24: a READING of S as R .. WEIGHT 0 .. 999; numbered from 0 on as they come");
        StringBuilder b = new StringBuilder();
        for (int r = 0; r < 24; r++) {
            b.append("open ~ ").append(LETTERS.charAt(r)).append(" any any ").append(r).append(';');
        }
        ShortForms x = takes(b.toString(), 24);
        due("count", x.count(0), 24);
        for (int r = 0; r < 24; r++) {
            due("weight of " + r, x.open(r, 4), r);
            due("letter of " + r, x.letter(true, r, 0), LETTERS.charAt(r));
        }
        refuses(b + "open ~ a any any 1;", 2, b.length());
        refuses(b + " open ?", 2, b.length() + 1);
        refuses(b + "opens", 1, b.length());
        takes(b + "word a noun 1;strange 1;", 26);
        due("0", takes("open ~ a any any 0;", 1).open(0, 4), 0);
        due("999", takes("open ~ a any any 999;", 1).open(0, 4), 999);
        refuses("open ~ a any any 1000;", 2, 17);
        says("word, at most 24: an ENTRY, its KIND, FORM 0 .. 9 (the same letters may come more than once)");
        b = new StringBuilder();
        for (int e = 0; e < 24; e++) {
            b.append("word ").append(LETTERS.charAt(e / 2)).append(' ').append(KINDS[e % 5]).append(' ').append(e % 10).append(';');
        }
        x = takes(b.toString(), 24);
        due("count", x.count(1), 24);
        for (int e = 0; e < 24; e++) {
            due("letter of " + e, x.letter(false, e, 0), LETTERS.charAt(e / 2));
            due("kind of " + e, x.entry(e, 1), e % 5);
            due("form of " + e, x.entry(e, 2), e % 10);
        }
        refuses(b + "word a noun 1;", 2, b.length());
        refuses(b + "\nword ?", 2, b.length() + 1);
        refuses("word a noun 10;", 2, 12);
        says("as many LINES as there can be");
        b = new StringBuilder("strange 1;habit 1;seed 1;" + "word a noun 1;".repeat(24));
        for (int k = 0; k < 25; k++) {
            b.append("agree ").append(KINDS[k / 5]).append(' ').append(KINDS[k % 5]).append(';');
        }
        takes(b.toString(), 52);
    }

    static void agreeAndPair() {
        for (int p = 0; p < 5; p++) {
            for (int q = 0; q < 5; q++) {
                String two = KINDS[p] + " " + KINDS[q];
                says("agree: a KIND ahead and one behind it AGREE");
                ShortForms x = with("word b " + KINDS[p] + " 1;word c " + KINDS[q] + " 2;agree " + two + ";", "b c");
                due(two + ", forms 1 and 2", x.readings(), 0);
                Tape.page(x, "c b");
                due(two + " the other way round", x.readings(), p == q ? 0 : 1);
                says("pair: of a KIND ahead and one behind it what they cost, 0 .. 999 (0)");
                x = with("word b " + KINDS[p] + " 1;word c " + KINDS[q] + " 2;pair " + two + " 999;", "b c");
                due(two, x.best(), 999);
                Tape.page(x, "c b");
                due(two + " the other way round", x.best(), p == q ? 999 : 0);
                says("3 told already: agree, pair of two KINDS (at the second K)");
                int at = ("agree " + two + ";agree " + KINDS[p] + " ").length();
                refuses("agree " + two + ";agree " + two + ";", 3, at);
                at = ("pair " + two + " 0;pair " + KINDS[p] + " ").length();
                refuses("pair " + two + " 0;pair " + two + " 1000;", 3, at);
                int lines = p == q ? 2 : 4;
                takes("agree " + two + ";pair " + two + " 0;" + (p == q ? "" : "agree " + KINDS[q] + " " + KINDS[p] + ";pair "
                    + KINDS[q] + " " + KINDS[p] + " 999;"), lines);
            }
        }
        refuses("pair noun noun 1000;", 2, 15);
    }

    static void settings() {
        says("strange: 0 .. 999 (500)");
        due("not told", takes("", 0).count(3), 500);
        due("0", takes("strange 0;", 1).count(3), 0);
        due("999", takes("strange 999;", 1).count(3), 999);
        refuses("strange 1000;", 2, 8);
        says("habit: 0 .. 99 (0)");
        due("not told", takes("", 0).count(4), 0);
        due("0", takes("habit 0;", 1).count(4), 0);
        due("99", takes("habit 99;", 1).count(4), 99);
        refuses("habit 100;", 2, 6);
        says("seed: 0 .. 99999 (0)");
        // By pairs a drawing's cost tells both draws modulo 5: of the seed 0 they are 0 3, of 99999 1 1.
        due("not told", drawn("", -1, 1), 3);
        due("0", drawn("seed 0;", -1, 1), 3);
        due("99999", drawn("seed 99999;", -1, 1), 11);
        refuses("seed 100000;", 2, 5);
        says("3 told already: strange, habit, seed (at the word)");
        for (String word : new String[] {"strange", "habit", "seed"}) {
            refuses(word + " 5;" + word + " 5;", 3, word.length() + 3);
            refuses(word + " 5; " + word + " 999999;", 3, word.length() + 4);
            refuses(word + " 5;\n" + word, 3, word.length() + 4);
            takes(word + " 5;", 1);
        }
        takes("strange 5;habit 5;seed 5;", 3);
    }

    static void tokens() {
        says("a word of more than 8 letters that isn't of the language, too");
        refuses("abcdefghi;", 1, 0);
        refuses("openopenopen ~", 1, 0);
        refuses("strangers 5;", 1, 0);
        refuses("agree noun abcdefghi;", 1, 11);
        refuses("seed abcdefghi;", 1, 5);
        refuses("a".repeat(500), 1, 0);
        says("a TOKEN that can't stand there");
        for (String word : LANGUAGE) {
            if (!List.of("open", "word", "agree", "pair", "strange", "habit", "seed").contains(word)) {
                refuses(word + " 5;", 1, 0);
            }
        }
        refuses(";", 1, 0);
        refuses("seed 5;;", 1, 7);
        refuses("5;", 1, 0);
        refuses("~;", 1, 0);
        for (String shape : SHAPES) {
            String[] tokens = shape.split(" ");
            StringBuilder b = new StringBuilder();
            for (int k = 0; k < tokens.length - 1; k++) {
                b.append(tokens[k]).append(' ');
                says("the length, if more must come");
                refuses(b.toString(), 1, b.length());
                refuses(b.toString().strip(), 1, b.length() - 1);
                refuses("word a noun 1;" + b + "\n \n", 1, b.length() + 17);
                says("a TOKEN that can't stand there, as none is wanted yet, or no more");
                if (k < tokens.length - 2) {
                    refuses(b + ";", 1, b.length());
                } else {
                    takes(b + ";", 1);
                    refuses(b + "noun;", 1, b.length());
                    refuses(b + "5;", 1, b.length());
                }
                refuses(b + "!", 1, b.length());
            }
        }
        says("FAULTS, the first along the text");
        refuses("seed 1;seed 1;open ?", 3, 7);
        refuses("open ? a any any 1000;seed 1;seed 1;", 1, 5);
        refuses("open ~ a any any 1000;open ?", 2, 17);
        refuses("word a noun 10;word a noun", 2, 12);
    }

    static void pages() {
        says("A PAGE: WORDS, at most 10");
        pageTakes("", 0);
        pageTakes("b", 1);
        pageTakes("b c d e f g h i j k", 10);
        pageTakes("b c d e f g h i j k \n ", 10);
        says("2 an 11th WORD (at its first byte)");
        pageRefuses("b c d e f g h i j k l", 2, 20);
        pageRefuses("b c d e f g h i j k\n\n~m", 2, 21);
        says("of 1 .. 10 small letters and SIGNS each");
        for (int n = 1; n <= 10; n++) {
            ShortForms x = new ShortForms();
            due("page", Tape.page(x, "~bcdefghi=".substring(10 - n) + " b"), 2);
            due("the last byte", x.written(0, n - 1), '=');
            due("behind it", x.written(0, n), -2);
        }
        says("2 an 11th byte of a WORD (at it)");
        pageRefuses("bcdefghijkl", 2, 10);
        pageRefuses("~~~~~~~~~~~~ b", 2, 10);
        pageRefuses("b c d e f g h i j bcdefghijkl", 2, 28);
        pageTakes("bcdefghijk bcdefghijk", 2);
        says("blanks (10, 32) between them, ahead, behind; 1 another byte (at it)");
        for (int b = 0; b < 256; b++) {
            String s = "" + (char) b;
            if (isLetter(b) || SIGNS.indexOf(b) >= 0) {
                pageTakes(s, 1);
                pageTakes("b" + s + " c", 2);
            } else if (isBlank(b)) {
                pageTakes(s, 0);
                pageTakes("b" + s + "c", 2);
            } else {
                pageRefuses(s, 1, 0);
                pageRefuses("b" + s + "c", 1, 1);
                pageRefuses("b " + s, 1, 2);
            }
        }
        says("FAULTS, the first along the text (of one place the least)");
        pageRefuses("bcdefghijk?", 1, 10);
        pageRefuses("b c d e f g h i j k ?", 1, 20);
        pageRefuses("b c d e f g h i j k l ?", 2, 20);
        pageRefuses("b ? d e f g h i j k l", 1, 2);
        pageRefuses("bcdefghijkl?", 2, 10);
    }

    static void behind() {
        says("a SIGN becomes R of a READING of it that FITS");
        openings("open ~ b any any 1;open ^ c any any 1;open ^ d any any 1;", "~ ^ & b ~^ ~&", 1, 2, 0, 1, 2, 0);
        says("a letter stays itself");
        for (int k = 0; k < 26; k++) {
            ShortForms x = with("", LETTERS.substring(k, k + 1));
            due("least", x.least(0), 0);
            due("letter", x.leastLetter(0, 0), LETTERS.charAt(k));
            due("beyond", x.leastLetter(0, 1), -2);
        }
        says("B: start: nothing is opened yet");
        openings("open ~ b start any 1;open ^ - start any 1;open & - any any 1;", "~ c~ ~~ ^~ ^^~ ^c~ &&~ c&~", 1, 0, 0, 1, 1, 0, 1, 0);
        for (int k = 0; k < 26; k++) {
            char c = LETTERS.charAt(k);
            char other = LETTERS.charAt((k + 1) % 26);
            int vowel = VOWELS.indexOf(c) >= 0 ? 1 : 0;
            String text = "open ~ z vowel any 1;open ^ z cons any 1;open & z " + c + " any 1;open # z" + c + " any any 1;open % "
                + c + other + " any any 1;open * - any any 1;";
            says("B: vowel, cons: what was opened last is one of a e i o u, another letter");
            openings(text, c + "~ " + c + "^ #~ #^ " + c + "*~ " + c + "**^", vowel, 1 - vowel, vowel, 1 - vowel, vowel, 1 - vowel);
            says("B: a letter: what was opened last is that letter");
            openings(text, c + "& #& " + c + "*& " + other + "& %& " + c + other + "& " + other + c + "&", 1, 1, 1, 0, 0, 0, 1);
        }
        says("B: what was opened last, when nothing is opened yet");
        openings("open ~ b vowel any 1;open ~ b cons any 1;open ~ b a any 1;open ~ b z any 1;open ^ - any any 1;", "~ ^~ ^^^~", 0, 0, 0);
    }

    static void ahead() {
        says("A: end: it is the last byte of the WORD");
        openings("open ~ b any end 1;", "~ c~ ~c ~~ cdefghijk~", 1, 1, 0, 0, 1);
        for (int k = 0; k < 26; k++) {
            char c = LETTERS.charAt(k);
            char other = LETTERS.charAt((k + 25) % 26);
            int vowel = VOWELS.indexOf(c) >= 0 ? 1 : 0;
            says("A: vowel, cons, a letter: the next byte is such a letter");
            openings("open ~ z any vowel 1;open ^ z any cons 1;open & z any " + c + " 1;open # " + c + " any any 1;",
                "~" + c + " ^" + c + " &" + c + " &" + other + " ~# ^# &# &" + other + c, vowel, 1 - vowel, 1, 0, 0, 0, 0, 0);
        }
        openings("open ~ b any vowel 1;open ~ b any cons 1;open ~ b any a 1;open ~ b any z 1;", "~ c~", 0, 0);
        says("A: sign: the next byte is a SIGN");
        for (int k = 0; k < 10; k++) {
            char s = SIGNS.charAt(k);
            openings("open ~ b any sign 1;open " + s + " c any end 1;", "~" + s + " ~a ~", 1, 0, s == '~' ? 1 : 0);
        }
        says("any: whatever");
        openings("open ~ b any any 1;", "~ ~a ~z a~ z~ ~~ a~z", 1, 1, 1, 1, 1, 1, 1);
    }

    static void weightsNow() {
        says("WEIGHT NOW of a READING: WEIGHT less habit times its COUNT, 0 at least");
        ShortForms x = with("open ~ b any any 5;open ^ c any any 999;habit 2;", "~");
        int[] now = {5, 3, 1, 0, 0};
        for (int k = 0; k < 5; k++) {
            due("weight now", x.open(0, 6), now[k]);
            due("least", x.least(0), now[k]);
            due("weight", x.open(0, 4), 5);
            due("of one not taken", x.open(1, 6), 999);
            x.learn();
        }
        x.weigh(0, 11);
        due("of 11 and five times", x.open(0, 6), 1);
        x.weigh(0, 10);
        due("just 0", x.open(0, 6), 0);
        x.weigh(0, 9);
        due("0 at least", x.open(0, 6), 0);
        x = with("open ~ b any any 5;", "~");
        x.learn();
        due("habit 0", x.open(0, 6), 5);
        x = with("open ~ b any any 999;habit 99;", "~~~~~~~~~~");
        due("ten of 999", x.least(0), 9990);
        due("ten times", x.learn(), 10);
        due("999 less 990", x.open(0, 6), 9);
        due("ten of 9", x.least(0), 90);
        x.learn();
        due("0 at least", x.open(0, 6), 0);
    }

    static void order() {
        says("Of OPENINGS of one COST goes first, whose READINGS' numbers, one behind another, are first");
        ShortForms x = with("open ~ b any any 2;open ~ c any any 1;open ^ d any any 1;open ^ e any any 2;word bd noun 1;word ce noun 1;", "~^");
        x.weigh(1, 2);
        due("1 2 costs as little as 0 2", x.leastLetter(0, 0), 'b');
        x.weigh(2, 3);
        due("0 3, 1 3: the least", x.leastLetter(0, 1), 'e');
        due("by 0", x.leastLetter(0, 0), 'b');
        x.weigh(0, 3);
        due("by 1", x.leastLetter(0, 0), 'c');
        x = with("open ~ - any any 1;open ^ bc any any 1;open ~ b any any 1;open ^ c any any 1;word bc noun 1;", "~^");
        due("EXACT by 0 1", x.exactBy(0, 0, 0), 0);
        due("EXACT by 0 1", x.exactBy(0, 0, 1), 1);
        x.weigh(0, 2);
        due("EXACT by 2 3", x.exactBy(0, 0, 0), 2);
        due("EXACT by 2 3", x.exactBy(0, 0, 1), 3);
        x.weigh(3, 2);
        due("of one cost by 0 1 again", x.exactBy(0, 0, 0), 0);
        says("LEAST of a WORD: its OPENING of the least COST, by what each SIGN leaves opened last");
        String text = "open ~ b any any 1;open ^ c q any 1;open ^ d b any 1;open ^ f d any 1;open & - any any 1;open ' z cons any 0;";
        letters(text, "q~^", "qbd");
        letters(text, "q^", "qc");
        letters(text, "q~^^", "qbdf");
        letters(text, "b&^&^", "bdf");
        letters(text, "~b^", "bbd");
        letters(text, "q~q^'", "qbqcz");
        says("EXACT: of those by which it is just the letters of the ENTRY");
        x = with("open ~ bc any any 1;open ~ bcde any any 1;open ~ b any any 1;open ~ - any any 0;word bcd noun 1;", "~ ~d b~d bcd bc bcde");
        int[] want = {-2, 1, -2, 0, -2, -2};
        for (int w = 0; w < 6; w++) {
            due("exact of word " + w, x.exact(w, 0), want[w]);
        }
        x = with("open ~ cd any any 1;word bcd noun 1;", "b~ b~~ ~ bb~ c~");
        for (int w = 0; w < 5; w++) {
            due("exact of word " + w, x.exact(w, 0), w == 0 ? 1 : -2);
        }
        x = with("open ~ jk any any 3;word bcdfghjk noun 1;", "bcdfghjk bcdfghjkl bcdfghjkkk bcdfghj bcdfgh~ bcdfgh~b ~bcdfghjk b");
        for (int w = 0; w < 8; w++) {
            due("exact of word " + w, x.exact(w, 0), w == 0 ? 0 : w == 4 ? 3 : -2);
        }
        x = with("open ~ b any any 0;open ~ - any any 0;word bc noun 1;", "~d ~ bc~ ~d~");
        for (int w = 0; w < 4; w++) {
            due("exact by weights of 0, of word " + w, x.exact(w, 0), w == 2 ? 0 : -2);
            due("by, of word " + w, x.exactBy(w, 0, 0), w == 2 ? 1 : -2);
        }
    }

    static void letters(String text, String page, String want) {
        ShortForms x = with(text, page);
        for (int i = 0; i < want.length(); i++) {
            due("letter " + i + " of " + page, x.leastLetter(0, i), want.charAt(i));
        }
        due("behind them", x.leastLetter(0, want.length()), -2);
    }

    static void choices() {
        says("CHOICES of a WORD: each ENTRY for which there is an EXACT, by numbers, with its COST");
        ShortForms x = with("open ~ c any any 8;open ~ b any any 3;word b noun 1;word d noun 1;word c verb 1;word b adj 2;", "~ d q~ ^");
        int[] who = {0, 2, 3};
        int[] cost = {3, 8, 3};
        due("choices", x.choices(0), 3);
        for (int p = 0; p < 3; p++) {
            due("entry", x.choice(0, p, 0), who[p]);
            due("cost", x.choice(0, p, 1), cost[p]);
        }
        due("d", x.choice(1, 0, 0), 1);
        due("d", x.choices(1), 1);
        says("if there is none: LEAST, STRANGE, with its COST and strange");
        due("strange", x.choice(2, 0, 0), -2);
        due("3 and 500", x.choice(2, 0, 1), 503);
        due("two letters", x.choice(2, 0, 2), 2);
        due("one alone", x.choices(2), 1);
        says("if there is no OPENING at all: DARK, no letters, 2 times strange");
        due("dark", x.choice(3, 0, 0), -3);
        due("2 times 500", x.choice(3, 0, 1), 1000);
        due("no letters", x.choice(3, 0, 2), 0);
        due("one alone", x.choices(3), 1);
        x = with("strange 999;open ~ - any any 7;", "b ^ ~");
        due("999", x.choice(0, 0, 1), 999);
        due("2 times 999", x.choice(1, 0, 1), 1998);
        due("opened to nothing: strange", x.choice(2, 0, 0), -2);
        due("7 and 999", x.choice(2, 0, 1), 1006);
        due("of no letters", x.choice(2, 0, 2), 0);
        x = with("strange 0;", "b ^");
        due("0", x.choice(0, 0, 1), 0);
        due("2 times 0", x.choice(1, 0, 1), 0);
        due("and dark all the same", x.choice(1, 0, 0), -3);
    }

    static void readingsOfThePage() {
        String text = "word b noun 1;word b noun 2;word c verb 1;word c verb 2;agree noun verb;pair noun verb 5;strange 100;";
        says("of two WORDS one behind the other, both ENTRIES, whose KINDS (in that order) AGREE, FORMS are the same");
        due("b c", with(text, "b c").readings(), 2);
        due("c b", with(text, "c b").readings(), 4);
        due("b b", with(text, "b b").readings(), 4);
        due("b c b c", with(text, "b c b c").readings(), 4);
        due("b alone", with(text, "b").readings(), 2);
        due("a strange one between", with(text, "b q c").readings(), 4);
        due("a dark one between", with(text, "b ~ c").readings(), 4);
        due("not one behind the other", with(text + "word d adj 9;", "b d c").readings(), 4);
        says("COST: of all CHOICES, and what pairs of KINDS of such two cost");
        due("b c", with(text, "b c").best(), 5);
        due("c b", with(text, "c b").best(), 0);
        due("b c b c", with(text, "b c b c").best(), 10);
        due("a strange one between", with(text, "b q c").best(), 100);
        due("a dark one between", with(text, "b ~ c").best(), 200);
        due("an entry between", with(text + "word d adj 9;", "b d c").best(), 0);
        says("(a FIXED one has that alone)");
        ShortForms x = with(text, "b c");
        x.fix(0, 1);
        due("readings", x.readings(), 1);
        due("verb 2", x.chosen(1), 1);
        x.fix(1, 0);
        due("readings", x.readings(), 0);
        says("BEST: the one of the least COST; of several the first by places of its CHOICES, WORD by WORD (0 on)");
        x = with("open ~ b any any 9;open ~ c any any 4;word b noun 1;word c noun 1;", "~ ~ c ~");
        for (int w = 0; w < 4; w++) {
            due("4 is less than 9", x.chosen(w), w == 2 ? 0 : 1);
        }
        due("12", x.best(), 12);
        String two = "word b noun 1;word b verb 1;word c noun 1;word c verb 1;";
        String[] texts = {two, two + "pair noun noun 1;", two + "pair noun noun 1;pair noun verb 1;",
            two + "pair noun noun 1;pair noun verb 1;pair verb noun 1;", two + "pair noun noun 2;pair noun verb 2;pair verb noun 2;pair verb verb 1;"};
        int[][] places = {{0, 0}, {0, 1}, {1, 0}, {1, 1}, {1, 1}};
        for (int k = 0; k < texts.length; k++) {
            x = with(texts[k], "b c");
            due("first of " + texts[k], x.chosen(0), places[k][0]);
            due("second of " + texts[k], x.chosen(1), places[k][1]);
        }
    }

    static void dearest() {
        says("COST: of all CHOICES, as dear as they can be");
        StringBuilder b = new StringBuilder();
        for (int w = 0; w < 10; w++) {
            b.append("^~~~~~~~~~ ");
        }
        String text = "open ~ - any any 999;open ^ b any any 999;";
        ShortForms x = with(text + "word b noun 1;word b noun 1;pair noun noun 999;", b.toString());
        due("ten of 9990, nine pairs of 999", x.best(), 108891);
        due("second", x.second(), 108891);
        due("margin", x.margin(9), 0);
        due("forced", x.forced(9, 1), 108891);
        due("by chance", x.chance(1, 1, 1), 108891);
        due("readings", x.readings(), 1024);
        due("taken", x.learn(), 100);
        due("sure of none", x.sure(), 0);
        x = with(text + "strange 999;", b.toString());
        due("ten of 9990 and 999", x.best(), 109890);
        due("without ^ all are dark", x.without(1), 19980);
        x = with("strange 999;", b.toString());
        due("ten of 1998", x.best(), 19980);
    }

    static void habits() {
        says("COUNT of each READING is so much more as BEST takes it, 999 at most");
        String page = ("~~~~~~~~~~ ").repeat(10);
        ShortForms x = with("open ~ b any any 1;open ^ b any any 1;", page);
        for (int k = 1; k <= 9; k++) {
            due("learn", x.learn(), 100);
            due("count", x.open(0, 5), 100 * k);
        }
        Tape.page(x, "~~~~~~~~~~ ".repeat(9) + "~~~~~~~~");
        due("98", x.learn(), 98);
        due("998", x.open(0, 5), 998);
        Tape.page(x, "~");
        due("one", x.learn(), 1);
        due("999", x.open(0, 5), 999);
        due("one", x.learn(), 1);
        due("999 at most", x.open(0, 5), 999);
        due("together", x.count(5), 999);
        due("back to 999", x.undo(), 1);
        due("999", x.open(0, 5), 999);
        due("back to 998", x.undo(), 0);
        due("998", x.open(0, 5), 998);
        Tape.page(x, "~~ ^");
        due("three", x.learn(), 3);
        due("999 at most", x.open(0, 5), 999);
        due("of the other", x.open(1, 5), 1);
        says("as BEST takes it (EXACT, LEAST of its CHOICES)");
        x = with("open ~ b any any 9;open ~ c any any 1;word b noun 1;", "~ q~ ^");
        due("EXACT takes 0, LEAST takes 1, DARK none", x.learn(), 2);
        due("0", x.open(0, 5), 1);
        due("1", x.open(1, 5), 1);
    }

    static String shortOf(ShortForms x, int entry) {
        StringBuilder b = new StringBuilder();
        for (int i = 0; i < x.shortest(entry); i++) {
            b.append((char) x.shortByte(entry, i));
        }
        due("behind the last byte", x.shortByte(entry, x.shortest(entry)), -2);
        return b.toString();
    }

    static void shortIs(String text, String... want) {
        ShortForms x = takes(text, text.split(";", -1).length - 1);
        for (int e = 0; e < want.length; e++) {
            String got = shortOf(x, e);
            due("short " + got + " for " + want[e] + " by " + text, got.equals(want[e]) ? 0 : 1, 0);
        }
    }

    static void shorts() {
        says("SHORT of an ENTRY: of all WORDS of 1 .. 8 bytes one of the fewest bytes");
        shortIs("word bcdfghjk noun 1;word b noun 1;", "bcdfghjk", "b");
        shortIs("word bcdfghjk noun 1;word bcdfghj noun 1;open ~ cdfghj any any 999;open ^ dfg any any 0;", "b~k", "b~");
        shortIs("word bbbbbb noun 1;open ~ bbbbbb any any 1;open ^ bbbbbb start end 1;", "^");
        shortIs("word bbbbbb noun 1;open ~ bbbbbb any sign 1;open ^ - any any 1;", "~^");
        shortIs("word bbbbbb noun 1;open ~ bbbbbb vowel any 1;open ~ bbbbbb b any 1;", "bbbbbb");
        says("of several the first by bytes, one behind another");
        String sorted = "#%&'*+=@^";
        for (int k = 0; k < 9; k++) {
            StringBuilder b = new StringBuilder("word b noun 1;open ~ b any any 1;");
            for (int i = 8; i >= k; i--) {
                b.append("open ").append(sorted.charAt(i)).append(" b any any 1;");
            }
            shortIs(b.toString(), "" + sorted.charAt(k));
        }
        shortIs("word b noun 1;open ~ b any any 1;", "b");
        shortIs("word bc noun 1;open ~ b any any 1;open # c a any 1;open ^ c b end 1;", "b^");
        shortIs("word bcbc noun 1;open ~ bc any end 1;open ^ bc any any 1;open # bc any vowel 1;open # cb any any 1;", "^^");
        shortIs("word bcdf noun 1;open # b any any 1;open ^ bc any any 1;open ^ df any any 1;open % cdf b any 1;", "#%");
        says("a few bytes, of which one has several READINGS");
        shortIs("word bcdfgh noun 1;open # bc any any 1;open # bcd any any 1;open # b any any 1;open % dfgh k any 1;open ' fgh d any 1;", "#'");
        shortIs("word bcdfgh noun 1;open # b any any 1;open # bcd any any 1;open # bc any any 1;open # gh f any 1;open & dfgh c end 1;", "#&");
        shortIs("word bbbb noun 1;open # b any any 1;open # bb any end 1;open # bb any sign 1;", "##");
        shortIs("word bcdf noun 1;open ' - start any 1;open ' bc any sign 1;open & df any end 1;", "'&");
        says("SHORT of one ENTRY behind another's");
        shortIs("word bcdfgh noun 1;word k noun 1;word cdf noun 1;word bcdf noun 1;word b noun 1;open ~ bcdfgh any any 1;open ^ cdf any any 1;",
            "~", "k", "^", "b^", "b");
        shortIs("word b noun 1;word bcdfghjk noun 1;word bc noun 1;word k noun 1;word bcdfghjl noun 1;", "b", "bcdfghjk", "bc", "k", "bcdfghjl");
        shortIs("word bbbbbbbb noun 1;word cbbbbbbb noun 1;word bbbbbbbc noun 1;word c noun 1;open ~ bbbb any any 1;open ^ bbbc any any 1;",
            "~~", "cbbb~", "~^", "c");
        shortIs("word b noun 1;word bc noun 1;open ~ bc any any 1;", "b", "~");
        says("of all WORDS, with as many READINGS as there can be");
        StringBuilder b = new StringBuilder("word bcdfghjk noun 1;word bcdfghjl noun 1;");
        for (int k = 0; k < 23; k++) {
            b.append("open ~ ").append(k % 2 == 0 ? "-" : "x").append(" any any 1;");
        }
        shortIs(b + "open = bcdfgh any any 1;", "=jk", "=jl");
        shortIs(b + "open ~ bcdfgh any any 1;", "~jk", "~jl");
        shortIs(b + "open ~ dfghjk any end 1;", "bc~", "bcdfghjl");
    }

    // Five ENTRIES of five KINDS, and pairs of a cost that tells both KINDS.
    static String tellingPairs() {
        StringBuilder b = new StringBuilder();
        for (int p = 0; p < 5; p++) {
            b.append("word b ").append(KINDS[p]).append(" 1;");
            for (int q = 0; q < 5; q++) {
                b.append("pair ").append(KINDS[p]).append(' ').append(KINDS[q]).append(' ').append(10 * p + q).append(';');
            }
        }
        return b.toString();
    }

    static int drawn(String line, int seed, int n) {
        return with(tellingPairs() + line, "b b").chance(seed, n, 1);
    }

    static void draws() {
        says("the last number times 1103515245, and 12345 more, without what is above 31 bits, is the next one; by 65536, modulo");
        // Draws modulo 5, by two: 0: 0 3, 3 2; 1: 3 3, 3 0, 1 2; 2147483647: 4 4, 2 3; 2147483646: 4 3, 1 0.
        due("seed 0", drawn("", 0, 1), 3);
        due("seed 0", drawn("", 0, 2), 3);
        due("seed 1", drawn("", 1, 1), 33);
        due("seed 1", drawn("", 1, 2), 30);
        due("seed 1", drawn("", 1, 3), 12);
        due("seed 2147483647", drawn("", 2147483647, 1), 44);
        due("seed 2147483647", drawn("", 2147483647, 2), 23);
        due("seed 2147483646", drawn("", 2147483646, 1), 43);
        due("seed 2147483646", drawn("", 2147483646, 2), 10);
        due("of the text", drawn("seed 1;", -1, 3), 12);
        due("of the text, another one told", drawn("seed 1;", 0, 3), 3);
        says("modulo its CHOICES (of a FIXED one, too: that one then whatever is drawn)");
        ShortForms x = with(tellingPairs(), "b b");
        x.fix(0, 2);
        due("2, 3", x.chance(1, 1, 1), 23);
        due("2, 0", x.chance(1, 2, 1), 20);
        x.fix(0, 0);
        due("0, 3", x.chance(1, 1, 1), 3);
        due("0, 0", x.chance(1, 2, 1), 0);
        x.fix(1, 4);
        due("0, 4", x.chance(1, 100, 1), 4);
        x.free(0);
        due("3, 4", x.chance(1, 2, 1), 34);
        due("1, 4", x.chance(1, 3, 1), 14);
        due("all of them", x.chance(1, 100, 0), 100);
        says("n times: WORD by WORD a CHOICE, behind two that can't stand together, too");
        // Draws from 0: 0 3 3, 2 3 2, 0 1 2; of these the first is none.
        x = with(tellingPairs().replaceFirst("noun 1", "noun 2") + "agree noun prep;", "b b b");
        due("0 3 3: none", x.chance(0, 1, 0), 0);
        due("0 3 3: none", x.chance(0, 1, 1), -2);
        due("2 3 2", x.chance(0, 2, 0), 1);
        due("2 3 2", x.chance(0, 2, 1), 55);
        due("0 1 2", x.chance(0, 3, 0), 2);
        due("0 1 2", x.chance(0, 3, 1), 13);
    }

    static void undone() {
        says("What is done by call to WEIGHTS, HABITS, FIXED ones can be undone, the latest first");
        ShortForms x = with("open ~ b any any 5;open ~ c any any 9;word b noun 1;word c noun 1;habit 2;", "~ b");
        x.weigh(0, 7);
        x.fix(0, 1);
        x.learn();
        x.forget();
        x.free(0);
        int[][] states = {{0, 0, 7}, {0, 1, 7}, {1, 1, 7}, {0, 1, 7}, {0, 0, 7}, {0, 0, 5}};
        for (int k = 0; k < 6; k++) {
            due("counts", x.count(5), states[k][0]);
            due("fixed", x.fixed(), states[k][1]);
            due("weight", x.open(0, 4), states[k][2]);
            due("best", x.best(), states[k][1] == 1 ? 9 - 2 * states[k][0] : states[k][2]);
            due("undo", x.undo(), k < 5 ? 4 - k : -1);
        }
        due("nothing has been undone any more", x.open(0, 4), 5);
        says("(20 at most)");
        for (int k = 1; k <= 19; k++) {
            x.weigh(0, k);
        }
        due("nineteen", x.count(6), 19);
        x.weigh(0, 20);
        due("twenty", x.count(6), 20);
        x.weigh(0, 21);
        due("twenty at most", x.count(6), 20);
        for (int k = 19; k >= 0; k--) {
            due("undo", x.undo(), k);
            due("weight", x.open(0, 4), k + 1);
        }
        due("none could", x.undo(), -1);
        due("the first stays done", x.open(0, 4), 1);
        for (int k = 0; k < 60; k++) {
            x.weigh(1, 100 + k);
        }
        for (int k = 58; k >= 39; k--) {
            x.undo();
            due("weight", x.open(1, 4), 100 + k);
        }
        due("none could", x.undo(), -1);
        due("weight", x.open(1, 4), 139);
    }

    static void images() {
        says("An IMAGE keeps these (WEIGHTS, HABITS, FIXED ones)");
        ShortForms x = with("open ~ b any any 5;open ~ c any any 9;word b noun 1;word c noun 1;habit 2;", "~ b");
        x.fix(0, 1);
        x.learn();
        x.weigh(1, 8);
        due("one fixed", x.keep(), 1);
        due("best: 8 less 2", x.best(), 6);
        x.forget();
        x.weigh(1, 50);
        x.weigh(0, 3);
        x.free(0);
        x.fix(1, 0);
        due("best: 3", x.best(), 3);
        due("back", x.back(), 1);
        due("fixed", x.fixed(), 1);
        due("counts", x.count(5), 1);
        due("weight", x.open(0, 4), 5);
        due("weight", x.open(1, 4), 8);
        due("best", x.best(), 6);
        due("nothing to undo", x.count(6), 0);
        x.free(0);
        due("best: 5", x.best(), 5);
        due("undo", x.undo(), 0);
        due("best", x.best(), 6);
        due("exact", x.exact(0, 1), 6);
        says("A PAGE read: none is FIXED, nothing to undo, no IMAGE");
        x.keep();
        x.weigh(0, 4);
        due("a page with a fault", Tape.page(x, "~ ?"), -1);
        due("fixed yet", x.fixed(), 1);
        due("to undo yet", x.count(6), 1);
        due("page", Tape.page(x, "~ b"), 2);
        due("none is fixed", x.fixed(), 0);
        due("nothing to undo", x.count(6), 0);
        due("none could", x.undo(), -1);
        due("no image", x.back(), -1);
        due("the weight stays", x.open(0, 4), 4);
        due("the count stays", x.open(1, 5), 1);
        x.keep();
        x.weigh(0, 6);
        due("a text with a fault", Tape.text(x, "seed"), -1);
        due("the image stays", x.back(), 0);
        due("weight", x.open(0, 4), 4);
        due("text", Tape.text(x, "open ~ b any any 5;"), 1);
        due("no image", x.back(), -1);
        says("FIXED is an ENTRY, STRANGE, DARK, not a place");
        x = with("open ~ b any any 5;open ~ c any any 9;open ~ d any any 1;word b noun 1;word c noun 1;word d noun 1;", "~");
        due("c", x.fix(0, 1), 1);
        due("without b it is at place 0", x.without(0), 9);
        due("without c it isn't there", x.without(1), 1);
        due("d", x.fix(0, 2), 2);
        due("without b it is at place 1", x.without(0), 1);
        due("without d it isn't there", x.without(2), 5);
        x = with("open ~ b any any 5;strange 100;", "~ ^");
        due("strange", x.fix(0, 0), -2);
        due("dark", x.fix(1, 0), -3);
        due("without b both are dark", x.without(0), 400);
        due("with it", x.best(), 305);
    }

    public static void main(String[] args) {
        Runnable[] all = {TermBoundaryTest::signs, TermBoundaryTest::readingLetters, TermBoundaryTest::conditions,
            TermBoundaryTest::entryWords, TermBoundaryTest::kinds, TermBoundaryTest::numbers, TermBoundaryTest::blanks,
            TermBoundaryTest::manyLines, TermBoundaryTest::agreeAndPair, TermBoundaryTest::settings, TermBoundaryTest::tokens,
            TermBoundaryTest::pages, TermBoundaryTest::behind, TermBoundaryTest::ahead, TermBoundaryTest::weightsNow,
            TermBoundaryTest::order, TermBoundaryTest::choices, TermBoundaryTest::readingsOfThePage, TermBoundaryTest::dearest,
            TermBoundaryTest::habits, TermBoundaryTest::shorts, TermBoundaryTest::draws, TermBoundaryTest::undone,
            TermBoundaryTest::images};
        for (Runnable one : all) {
            one.run();
        }
        Check.end("TermBoundaryTest");
    }
}
