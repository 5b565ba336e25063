import java.util.NoSuchElementException;

/** For each promise of the document ordinary inputs, the edges that it names, and wrong inputs; worked out by hand. */
public final class PromiseTest {
    static int wrong = 0;
    static int promise = 0;

    static void due(String call, long got, long want) {
        if (got != want) {
            wrong++;
            System.out.println("promise " + promise + ": " + call + " answered " + got + ", due is " + want);
        }
    }

    static void feed(ShortForms x, String s) {
        Tape.feed(x, s, '?');
    }

    static int text(ShortForms x, String s) {
        return Tape.text(x, s);
    }

    static int page(ShortForms x, String s) {
        return Tape.page(x, s);
    }

    static ShortForms with(String text, String page) {
        ShortForms x = new ShortForms();
        if (text(x, text) < 0) {
            due("text of " + text, -1, 0);
        }
        if (page(x, page) < 0) {
            due("page of " + page, -1, 0);
        }
        return x;
    }

    static void fault(String text, int fault, int place) {
        ShortForms x = new ShortForms();
        due("text " + text, text(x, text), fault == 0 ? text.chars().filter(c -> c == ';').count() : -1);
        due("fault 0 of " + text, x.fault(0), fault);
        due("fault 1 of " + text, x.fault(1), place);
    }

    static void pageFault(String page, int words, int fault, int place) {
        ShortForms x = new ShortForms();
        due("page " + page, page(x, page), words);
        due("fault 0 of " + page, x.fault(0), fault);
        due("fault 1 of " + page, x.fault(1), place);
    }

    // "n~" is ne by 0 or 1, na by 2, n alone by 3 (at the end only).
    static final String BASE = "open ~ e any any 5;open ~ e any any 4;open ~ a cons any 9;open ~ - any end 20;"
        + "open & et start end 2;open ' us cons sign 3;word ne conj 1;word na noun 2;word net verb 3;word et conj 0;"
        + "pair noun conj 7;agree noun verb;strange 100;habit 2;seed 5;";

    static void promise1() {
        ShortForms x = new ShortForms();
        for (int what = 0; what < 10; what++) {
            due("count " + what, x.count(what), what == 3 ? 500 : 0);
        }
        due("best", x.best(), 0);
        due("readings", x.readings(), 1);
        due("fixed", x.fixed(), 0);
        due("no image", x.back(), -1);
        due("nothing to undo", x.undo(), -1);
        due("NONE", ShortForms.NONE, -1);
    }

    static void promise2() {
        ShortForms x = new ShortForms();
        for (int k = 1; k <= 45; k++) {
            due("feed " + k, x.feed(0, 0, 0, 0, 0), 20 * k);
        }
        due("feed beyond", x.feed(0, 0, 0, 0, 0), -1);
        due("tape", x.count(7), 900);
        due("page of 900", x.page(900), -1);
        due("feed anew", x.feed(0x61626364, 0x65662020, 0x20202020, 0x20202020, -1), 20);
        due("page of 16", x.page(16), 1);
        for (int i = 0; i < 6; i++) {
            due("written " + i, x.written(0, i), 'a' + i);
        }
        x.feed(-1, 0x20202020, 0, 0, 0);
        due("page of high bytes", x.page(8), -1);
        due("fault 1", x.fault(1), 0);
    }

    static void promise3() {
        fault("", 0, -1);
        fault(" \n ", 0, -1);
        fault(BASE, 0, -1);
        fault("seed99999;habit99;strange999;", 0, -1);
        fault("seed 100000;", 2, 5);
        fault("habit 100;", 2, 6);
        fault("strange 1000;", 2, 8);
        fault("pair noun noun 1000;", 2, 15);
        fault("word a noun 0009;word b noun 10;", 2, 29);
        fault("open ~ a any any 99999999999999999999;", 2, 17);
        fault("open ~ abcdef any any 999;word abcdefgh noun 0;", 0, -1);
        fault(";", 1, 0);
        fault("Open", 1, 0);
        fault("seed 5", 1, 6);
        fault("seed 5  ", 1, 8);
        fault("seed 5 6;", 1, 7);
        fault("seed -5;", 1, 5);
        fault("seed\t5;", 1, 4);
        fault("noun;", 1, 0);
        fault("foo 1;", 1, 0);
        fault("word abcdefghi noun 1;", 1, 5);
        fault("word seed noun 1;", 1, 5);
        fault("word a start 1;", 1, 7);
        fault("word a 14 1;", 1, 7);
        fault("word a noun x;", 1, 12);
        fault("open a a any any 1;", 1, 5);
        fault("open ~ verb any any 1;", 1, 7);
        fault("open ~ a sign any 1;", 1, 9);
        fault("open ~ a start end 1;open ~ a end start 1;", 1, 30);
        fault("open ~ a any start 1;", 1, 13);
        fault("open ~ a any ab 1;", 1, 13);
        fault("open ~ a ~ any 1;", 1, 9);
        fault("agree noun verb;agree verb noun;agree noun noun;pair noun verb 1;pair verb noun 1;", 0, -1);
        fault("agree noun verb;agree noun verb;", 3, 27);
        fault("pair noun verb 1;pair noun verb 1000;", 3, 27);
        fault("agree noun a;", 1, 11);
        fault("strange 500;strange 500;", 3, 12);
        fault("habit 0;habit 0;", 3, 8);
        fault("seed 0;seed", 3, 7);
        fault("open ~ a any any 1;".repeat(24) + "seed 1;", 0, -1);
        fault("open ~ a any any 1;".repeat(24) + "seed 1;open", 2, 463);
        fault("word a noun 1;".repeat(24), 0, -1);
        fault("word a noun 1;".repeat(24) + "word A", 2, 336);
        textLeavesOrClears();
    }

    static void textLeavesOrClears() {
        ShortForms x = with(BASE, "n~ ne");
        x.learn();
        x.keep();
        x.weigh(0, 7);
        x.fix(0, 0);
        feed(x, "seed 5;");
        due("text of more than there is", x.text(21), -2);
        due("text of below 0", x.text(-1), -2);
        due("the tape stays", x.count(7), 20);
        due("fault of the one before", x.fault(0), 0);
        due("text of six bytes", x.text(6), -1);
        due("tape", x.count(7), 0);
        due("all else stays: readings", x.count(0), 6);
        due("words", x.count(2), 2);
        due("undo", x.count(6), 3);
        due("counts", x.count(5), 1);
        due("fixed", x.fixed(), 1);
        due("weight", x.open(0, 4), 7);
        due("text of nothing", x.text(0), 0);
        due("readings", x.count(0), 0);
        due("entries", x.count(1), 0);
        due("words", x.count(2), 0);
        due("strange", x.count(3), 500);
        due("habit", x.count(4), 0);
        due("counts", x.count(5), 0);
        due("undo", x.count(6), 0);
        due("fixed", x.fixed(), 0);
        due("best", x.best(), 0);
        due("readings of the page", x.readings(), 1);
        due("opened", x.opened(0), -2);
        due("image", x.back(), -1);
        text(x, BASE);
        due("weight anew", x.open(0, 4), 5);
        due("count anew", x.open(1, 5), 0);
        textLeavesNothingOfOlderOnes();
    }

    static void textLeavesNothingOfOlderOnes() {
        ShortForms x = new ShortForms();
        String two = "word a noun 1;word a noun 2;";
        for (int k = 0; k < 3; k++) {
            text(x, two + "pair noun noun 5;agree noun noun;pair conj conj 9;strange 3;habit 4;seed 1;");
        }
        for (int k = 0; k < 2; k++) {
            text(x, two);
            due("best, with no page yet", x.best(), 0);
            due("readings, with no page yet", x.readings(), 1);
            page(x, "a a");
            due("neither agree nor pair of an older text", x.readings(), 4);
            due("nor their costs", x.second(), 0);
            due("strange", x.count(3), 500);
            due("habit", x.count(4), 0);
            // From 0 the draws are 0, 21468, 9988, ..: two of the same place, both 0, agree.
            due("seed", x.chance(-1, 7, 1), x.chance(0, 7, 1));
        }
        text(x, "word a noun 1;word b noun 1;word c noun 1;seed 3;");
        text(x, "seed 3;seed 3;");
        text(x, "word a noun 1;word a verb 1;pair noun noun 1;pair noun verb 2;pair verb noun 3;pair verb verb 4;");
        page(x, "a a");
        due("the seed of the text, 0: 0 and 21468", x.chance(-1, 1, 1), 1);
    }

    static void promise4() {
        pageFault("", 0, 0, -1);
        pageFault("  \n", 0, 0, -1);
        pageFault("\n a~ b\nc ", 3, 0, -1);
        pageFault("a b c d e f g h i j ", 10, 0, -1);
        pageFault("a b c d e f g h i j k", -1, 2, 20);
        pageFault("abcdefghij", 1, 0, -1);
        pageFault(" abcdefghijk", -1, 2, 11);
        pageFault("abcdefghijA", -1, 1, 10);
        pageFault("~^'&@#%*+=", 1, 0, -1);
        pageFault("ab-c", -1, 1, 2);
        pageFault("ab;", -1, 1, 2);
        pageFault("a1", -1, 1, 1);
        pageFault("a\tb", -1, 1, 1);
        pageFault("a" + (char) 225, -1, 1, 1);
        ShortForms x = with(BASE, "n~ ne");
        x.learn();
        x.weigh(1, 9);
        x.keep();
        x.fix(0, 1);
        feed(x, "ab?");
        due("page of more than there is", x.page(21), -2);
        due("page below 0", x.page(-5), -2);
        due("tape", x.count(7), 20);
        due("page with a fault", x.page(3), -1);
        due("tape", x.count(7), 0);
        due("words stay", x.count(2), 2);
        due("undo stays", x.count(6), 3);
        due("fixed stays", x.fixed(), 1);
        due("page", page(x, "et"), 1);
        due("fixed", x.fixed(), 0);
        due("undo", x.undo(), -1);
        due("image", x.back(), -1);
        due("counts stay", x.count(5), 1);
        due("weights stay", x.open(1, 4), 9);
    }

    static void promise5() {
        ShortForms x = new ShortForms();
        due("fault 0", x.fault(0), 0);
        due("fault 1", x.fault(1), -1);
        due("fault 2", x.fault(2), -1);
        due("fault -1", x.fault(-1), -1);
        page(x, "a b ?");
        due("fault 0", x.fault(0), 1);
        due("fault 1", x.fault(1), 4);
        due("fault 2", x.fault(2), -1);
        x.text(5);
        x.page(-1);
        due("fault 0 after -2", x.fault(0), 1);
        due("fault 1 after -2", x.fault(1), 4);
        text(x, "seed 1;seed 1;");
        due("fault 0", x.fault(0), 3);
        due("fault 1", x.fault(1), 7);
        page(x, "a");
        due("fault 0", x.fault(0), 0);
        due("fault 1", x.fault(1), -1);
    }

    static int thrown(ShortForms x, int reading, int what) {
        try {
            x.open(reading, what);
            return 0;
        } catch (IndexOutOfBoundsException e) {
            return 1;
        } catch (NoSuchElementException e) {
            return 2;
        }
    }

    static void promise6() {
        ShortForms x = with("open = - start sign 999;open ^ abc vowel end 0;open # z cons vowel 3;open * zz a cons 4;"
            + "open + ab z z 5;open % a any a 6;habit 3;", "%");
        int[][] want = {{9, 0, 1, 30, 999}, {1, 3, 2, 1, 0}, {5, 1, 3, 2, 3}, {7, 2, 4, 3, 4}, {8, 2, 29, 29, 5}, {6, 1, 0, 4, 6}};
        for (int r = 0; r < 6; r++) {
            for (int what = 0; what < 5; what++) {
                due("open " + r + " " + what, x.open(r, what), want[r][what]);
            }
            due("open 5", x.open(r, 5), 0);
            due("open 6", x.open(r, 6), want[r][4]);
        }
        due("no such reading", thrown(x, 6, 0), 1);
        due("no such reading", thrown(x, -1, 0), 1);
        due("no such reading, no such what", thrown(x, 24, 9), 1);
        due("no such what", thrown(x, 0, 7), 2);
        due("no such what", thrown(x, 0, -1), 2);
        due("such a what", thrown(x, 5, 6), 0);
        x = with("open % a any any 5;word a noun 0;habit 3;", "%");
        x.learn();
        due("weight", x.open(0, 4), 5);
        due("count", x.open(0, 5), 1);
        due("now", x.open(0, 6), 2);
        x.learn();
        due("now, 0 at least", x.open(0, 6), 0);
    }

    static void promise7() {
        ShortForms x = with(BASE, "a");
        due("letters", x.entry(2, 0), 3);
        due("kind", x.entry(2, 1), 1);
        due("form", x.entry(2, 2), 3);
        due("kind", x.entry(3, 1), 4);
        due("no such what", x.entry(2, 3), -1);
        due("no such what", x.entry(2, -1), -1);
        due("no such entry", x.entry(4, 0), -1);
        due("no such entry", x.entry(-1, 0), -1);
        text(x, "word a adj 9;word a prep 0;");
        due("kind", x.entry(0, 1), 2);
        due("kind", x.entry(1, 1), 3);
        due("form", x.entry(0, 2), 9);
    }

    static void promise8() {
        ShortForms x = with(BASE, "a");
        due("of a reading", x.letter(true, 4, 0), 'e');
        due("of a reading", x.letter(true, 4, 1), 't');
        due("beyond", x.letter(true, 4, 2), -2);
        due("beyond by far", x.letter(true, 4, 2147483647), -2);
        due("of none", x.letter(true, 3, 0), -2);
        due("below 0", x.letter(true, 4, -1), -1);
        due("no such reading", x.letter(true, 6, 0), -1);
        due("no such reading", x.letter(true, -1, 9), -1);
        due("of an entry", x.letter(false, 2, 2), 't');
        due("beyond", x.letter(false, 2, 3), -2);
        due("below 0", x.letter(false, 2, -2147483648), -1);
        due("no such entry", x.letter(false, 4, 0), -1);
        due("no such entry", x.letter(false, -1, 0), -1);
        text(x, "open ~ abcdef any any 1;word abcdefgh noun 1;");
        due("the sixth", x.letter(true, 0, 5), 'f');
        due("the seventh", x.letter(true, 0, 6), -2);
        due("the eighth", x.letter(false, 0, 7), 'h');
        due("the ninth", x.letter(false, 0, 8), -2);
    }

    static void promise9() {
        ShortForms x = with("", " ab~\n=");
        due("first", x.written(0, 0), 'a');
        due("sign", x.written(0, 2), '~');
        due("beyond", x.written(0, 3), -2);
        due("next word", x.written(1, 0), '=');
        due("beyond", x.written(1, 1), -2);
        due("below 0", x.written(0, -1), -1);
        due("no such word", x.written(2, 0), -1);
        due("no such word", x.written(-1, 5), -1);
        page(x, "abcdefghij");
        due("tenth", x.written(0, 9), 'j');
        due("eleventh", x.written(0, 10), -2);
    }

    static void promise10() {
        ShortForms x = with(BASE, "n~ ~ & a& '~ n'~ abc n&");
        due("n~", x.openings(0), 4);
        due("~ alone: no consonant behind", x.openings(1), 3);
        due("&", x.openings(2), 1);
        due("a&: not the start", x.openings(3), 0);
        due("'~: no consonant behind", x.openings(4), 0);
        due("n'~: us, then e, e, a, -", x.openings(5), 4);
        due("no sign", x.openings(6), 1);
        due("no such word", x.openings(8), -1);
        due("no such word", x.openings(-1), -1);
        x = with("open ~ a any any 1;".repeat(24), "~ ~~~~~~~~ ~~~~~~~~~ ~~~~~~~~~~ b~~~~~~~~");
        due("24", x.openings(0), 24);
        due("24 eight times", x.openings(1), 110075314176L);
        due("24 nine times, held at the most", x.openings(2), 1000000000000L);
        due("24 ten times", x.openings(3), 1000000000000L);
        x = with("open ~ - any any 1;open & b start any 2;open & c vowel any 2;open & d cons any 2;open & e a any 2;",
            "~& a~& b~& ~~&~");
        due("nothing is opened by none", x.openings(0), 1);
        due("what was opened last stays: vowel and a", x.openings(1), 2);
        due("what was opened last stays: cons", x.openings(2), 1);
        due("start behind two of none", x.openings(3), 1);
        x = with("open ~ x any end 1;open ~ x any vowel 1;open ~ x any cons 1;open ~ x any sign 1;open ~ x any b 1;"
            + "open & - any any 0;", "~ ~a ~b ~& ~c");
        due("ahead the end", x.openings(0), 1);
        due("ahead a vowel", x.openings(1), 1);
        due("ahead cons, b", x.openings(2), 2);
        due("ahead a sign", x.openings(3), 1);
        due("ahead cons", x.openings(4), 1);
    }

    static void promise11() {
        ShortForms x = with(BASE, "n~ a& abc ~ n'~");
        due("4 is less than 5", x.least(0), 4);
        due("no opening", x.least(1), -2);
        due("no sign", x.least(2), 0);
        due("~", x.least(3), 4);
        due("us and e", x.least(4), 7);
        due("no such word", x.least(5), -1);
        due("no such word", x.least(-1), -1);
        x = with("open ~ a any any 999;", "~~~~~~~~~~");
        due("the dearest", x.least(0), 9990);
        x = with("open ~ a any any 1;open ~ e any any 2;open & x a any 100;open & x e any 1;", "~&");
        due("not the least step by step", x.least(0), 3);
    }

    static void promise12() {
        ShortForms x = with(BASE, "n~ a& '~ n'~ &");
        due("n", x.leastLetter(0, 0), 'n');
        due("e", x.leastLetter(0, 1), 'e');
        due("beyond", x.leastLetter(0, 2), -2);
        due("no opening", x.leastLetter(1, 0), -2);
        due("no opening", x.leastLetter(2, 0), -2);
        due("nuse", x.leastLetter(3, 2), 's');
        due("nuse", x.leastLetter(3, 3), 'e');
        due("et", x.leastLetter(4, 1), 't');
        due("below 0", x.leastLetter(0, -1), -1);
        due("below 0, no opening", x.leastLetter(1, -1), -1);
        due("no such word", x.leastLetter(5, 0), -1);
        x = with("open ~ abcdef any any 1;open ~ abcdeg any any 1;", "~~~~~~~~~~");
        due("the first of one cost", x.leastLetter(0, 5), 'f');
        due("the last", x.leastLetter(0, 59), 'f');
        due("beyond", x.leastLetter(0, 60), -2);
        x = with("open ~ a any any 1;open ~ b any any 2;open & c any any 2;open & d any any 1;open & d b any 0;", "~&");
        due("of 0 3 and 1 4 the first", x.leastLetter(0, 0), 'a');
    }

    static void promise13() {
        ShortForms x = with(BASE, "n~ n~t & n");
        due("ne", x.exact(0, 0), 4);
        due("na", x.exact(0, 1), 9);
        due("net", x.exact(0, 2), -2);
        due("net", x.exact(1, 2), 4);
        due("et", x.exact(2, 3), 2);
        due("none", x.exact(3, 0), -2);
        due("no such entry", x.exact(0, 4), -1);
        due("no such entry", x.exact(0, -1), -1);
        due("no such word", x.exact(4, 0), -1);
        due("no such word", x.exact(-1, -1), -1);
        due("weigh", x.weigh(1, 8), 4);
        due("ne by the other", x.exact(0, 0), 5);
        x = with("open ~ - any any 1;word a noun 1;", "~");
        due("opened to nothing", x.exact(0, 0), -2);
        x = with("open ~ abc any any 1;word ab noun 1;word abcd noun 1;word abc noun 1;", "~");
        due("letters left over", x.exact(0, 0), -2);
        due("letters missing", x.exact(0, 1), -2);
        due("just", x.exact(0, 2), 1);
    }

    static void promise14() {
        ShortForms x = with(BASE, "n~ n~t ne");
        due("ne by 1", x.exactBy(0, 0, 0), 1);
        due("beyond", x.exactBy(0, 0, 1), -2);
        due("na by 2", x.exactBy(0, 1, 0), 2);
        due("there is none", x.exactBy(0, 2, 0), -2);
        due("no sign", x.exactBy(2, 0, 0), -2);
        due("below 0", x.exactBy(0, 0, -1), -1);
        due("below 0, none", x.exactBy(0, 2, -1), -1);
        due("no such word", x.exactBy(3, 0, 0), -1);
        due("no such entry", x.exactBy(0, 4, 0), -1);
        x.weigh(0, 4);
        due("the first of one cost", x.exactBy(0, 0, 0), 0);
        x = with("open ~ ab any any 1;open ~ a any any 1;open & c any any 1;open & bc any any 1;word abc noun 1;", "~&");
        due("of 0 2 and 1 3", x.exactBy(0, 0, 0), 0);
        due("of 0 2 and 1 3", x.exactBy(0, 0, 1), 2);
        x.weigh(0, 2);
        due("of 1 3", x.exactBy(0, 0, 0), 1);
        due("of 1 3", x.exactBy(0, 0, 1), 3);
        x.weigh(2, 0);
        due("0 2 again, by the number", x.exactBy(0, 0, 0), 0);
        due("beyond", x.exactBy(0, 0, 2), -2);
    }

    static void promise15() {
        ShortForms x = with(BASE, "n~ & a& nn");
        due("ne, na", x.choices(0), 2);
        due("et", x.choices(1), 1);
        due("dark", x.choices(2), 1);
        due("strange", x.choices(3), 1);
        x.fix(0, 1);
        due("a fixed one has all the same", x.choices(0), 2);
        due("no such word", x.choices(4), -1);
        due("no such word", x.choices(-1), -1);
        x = with("word a noun 1;".repeat(24), "a");
        due("the same letters come more than once", x.choices(0), 24);
    }

    static void promise16() {
        ShortForms x = with(BASE, "n~ a& nn~ et");
        due("ne", x.choice(0, 0, 0), 0);
        due("ne", x.choice(0, 0, 1), 4);
        due("ne", x.choice(0, 0, 2), 2);
        due("na", x.choice(0, 1, 0), 1);
        due("na", x.choice(0, 1, 1), 9);
        due("dark", x.choice(1, 0, 0), -3);
        due("dark", x.choice(1, 0, 1), 200);
        due("dark", x.choice(1, 0, 2), 0);
        due("strange", x.choice(2, 0, 0), -2);
        due("strange", x.choice(2, 0, 1), 104);
        due("strange", x.choice(2, 0, 2), 3);
        due("et", x.choice(3, 0, 0), 3);
        due("no such place", x.choice(0, 2, 0), -9);
        due("no such place", x.choice(0, -1, 0), -9);
        due("no such place", x.choice(1, 1, 0), -9);
        due("no such what", x.choice(0, 0, 3), -9);
        due("no such what", x.choice(0, 0, -1), -9);
        due("no such word", x.choice(4, 0, 0), -9);
        due("no such word", x.choice(-1, 0, 0), -9);
    }

    // Of a: noun 1 (0), verb 2 (1); of b: verb 1 (2), verb 2 (3), conj 5 (4).
    static final String PAIRS = "word a noun 1;word a verb 2;word b verb 1;word b verb 2;word b conj 5;agree noun verb;";

    static void promise17() {
        ShortForms x = with(PAIRS + "pair noun verb 9;pair noun conj 8;pair verb verb 7;pair verb conj 6;pair conj noun 50;", "a b");
        due("verb conj", x.best(), 6);
        x.fix(0, 0);
        due("noun conj", x.best(), 8);
        x.fix(1, 0);
        due("noun 1 verb 1", x.best(), 9);
        x.fix(1, 1);
        due("noun 1 verb 2 do not agree", x.best(), -2);
        page(x, "b a");
        due("verb noun is no pair, and agrees", x.best(), 0);
        page(x, "");
        due("without words", x.best(), 0);
        x = with(BASE, "na xx et a&");
        due("a strange one between: no pair, no agreeing", x.best(), 0 + 100 + 0 + 200);
        x = with("word a noun 1;word b noun 2;agree noun noun;strange 7;", "a c b");
        due("a strange one between", x.best(), 7);
    }

    static void promise18() {
        ShortForms x = with(PAIRS, "a b a");
        due("first", x.chosen(0), 0);
        due("second: verb 1 agrees", x.chosen(1), 0);
        due("third", x.chosen(2), 0);
        due("no such word", x.chosen(3), -1);
        due("no such word", x.chosen(-1), -1);
        x.fix(1, 1);
        due("verb 2 drives the first to its second", x.chosen(0), 1);
        due("fixed", x.chosen(1), 1);
        x.fix(0, 0);
        due("no best", x.chosen(0), -2);
        due("no best", x.chosen(2), -2);
        due("no best, no such word", x.chosen(3), -1);
        x = with(PAIRS + "pair noun verb 1;pair noun conj 1;", "a b");
        due("cheaper with the second", x.chosen(0), 1);
        due("of several the first", x.chosen(1), 0);
    }

    static void promise19() {
        ShortForms x = with(BASE, "n~ a& nn~ &");
        String best = "ne  nne et";
        for (int i = 0; i < best.length(); i++) {
            due("opened " + i, x.opened(i), best.charAt(i));
        }
        due("beyond", x.opened(best.length()), -2);
        due("beyond by far", x.opened(2147483647), -2);
        due("below 0", x.opened(-1), -1);
        x = with(PAIRS, "a b");
        x.fix(0, 0);
        x.fix(1, 1);
        due("no best", x.opened(0), -2);
        due("no best, below 0", x.opened(-1), -1);
        x = with("", "");
        due("no words", x.opened(0), -2);
    }

    static void promise20() {
        ShortForms x = with(BASE, "n~ a& nn~ & n~t");
        int[] want = {0, 3, 0, 0, 1, 0};
        for (int r = 0; r < 6; r++) {
            due("takes " + r, x.takes(r), want[r]);
        }
        due("no such reading", x.takes(6), -1);
        due("no such reading", x.takes(-1), -1);
        x = with("open ~ b any any 1;" + PAIRS, "a ~");
        due("once", x.takes(0), 1);
        x.fix(0, 0);
        x.fix(1, 1);
        due("no best", x.takes(0), -2);
        due("no best, no such reading", x.takes(1), -1);
    }

    static void promise21() {
        ShortForms x = with(PAIRS, "a b a");
        due("noun: verb 1, conj; verb: all three; each twice", x.readings(), 10);
        x.fix(1, 1);
        due("verb verb any", x.readings(), 2);
        x.fix(0, 0);
        due("none", x.readings(), 0);
        page(x, "");
        due("without words", x.readings(), 1);
        x = with("word a noun 1;".repeat(24), "a a a a a a a a a a");
        due("24 ten times", x.readings(), 63403380965376L);
    }

    static void promise22() {
        ShortForms x = with(PAIRS + "pair noun verb 9;pair noun conj 8;pair verb verb 7;pair verb conj 6;", "a b");
        due("noun", x.forced(0, 0), 8);
        due("verb", x.forced(0, 1), 6);
        due("verb 1", x.forced(1, 0), 7);
        due("verb 2", x.forced(1, 1), 7);
        due("conj", x.forced(1, 2), 6);
        due("no such place", x.forced(1, 3), -1);
        due("no such place", x.forced(1, -1), -1);
        due("no such word", x.forced(2, 0), -1);
        due("no such word", x.forced(-1, 0), -1);
        x.fix(0, 0);
        due("fixed to another one", x.forced(0, 1), -2);
        due("fixed", x.forced(0, 0), 8);
        due("verb 2 does not agree", x.forced(1, 1), -2);
        due("verb 1", x.forced(1, 0), 9);
    }

    static void promise23() {
        ShortForms x = with(PAIRS + "pair noun verb 9;pair noun conj 8;pair verb verb 7;pair verb conj 6;", "a b c");
        due("8 for 6", x.margin(0), 2);
        due("7 for 6", x.margin(1), 1);
        due("one choice alone", x.margin(2), -2);
        due("no such word", x.margin(3), -1);
        due("no such word", x.margin(-1), -1);
        x.fix(0, 0);
        due("fixed", x.margin(0), -2);
        due("9 for 8", x.margin(1), 1);
        x.fix(1, 1);
        due("no best", x.margin(1), -2);
        due("no best, no such word", x.margin(3), -1);
        x = with("word a noun 1;word a noun 1;", "a");
        due("another of the same cost", x.margin(0), 0);
    }

    static void promise24() {
        ShortForms x = with(PAIRS + "pair noun verb 9;pair noun conj 8;pair verb verb 7;pair verb conj 6;", "a b");
        due("verb verb", x.second(), 7);
        x.fix(0, 0);
        due("noun verb", x.second(), 9);
        x.fix(1, 2);
        due("one alone", x.second(), -2);
        x.fix(1, 1);
        due("no best", x.second(), -2);
        page(x, "");
        due("without words", x.second(), -2);
        x = with("word a noun 1;word a noun 1;", "a");
        due("of the same cost", x.second(), 0);
    }

    static void promise25() {
        ShortForms x = with(PAIRS + "pair noun verb 9;pair noun conj 8;pair verb verb 6;pair verb conj 6;", "a b c");
        due("the first and the last", x.sure(), 5);
        x.fix(1, 2);
        due("all", x.sure(), 7);
        x.fix(0, 0);
        x.fix(1, 1);
        due("no best", x.sure(), -2);
        page(x, "");
        due("without words", x.sure(), 0);
        x = with("word a noun 1;word a noun 1;", "a b a b b b b b b c");
        due("all but two", x.sure(), 1023 - 5);
    }

    static void promise26() {
        ShortForms x = with(BASE, "n~ &");
        due("best", x.best(), 6);
        due("without 0", x.without(0), 6);
        due("without 1", x.without(1), 7);
        due("without 4: dark", x.without(4), 4 + 200);
        due("best is as before", x.best(), 6);
        due("and by what", x.exactBy(0, 0, 0), 1);
        due("no such reading", x.without(6), -1);
        due("no such reading", x.without(-1), -1);
        x.fix(0, 1);
        due("fixed to na (noun conj: 7)", x.best(), 9 + 7 + 2);
        due("fixed to na, which isn't there: as if not fixed", x.without(2), 6);
        due("fixed to na, which is", x.without(0), 18);
        x = with("open ~ b any any 1;open ~ c any any 1;" + PAIRS, "a b");
        x.fix(0, 0);
        x.fix(1, 1);
        due("there is none", x.without(0), -2);
        due("there is none, no such", x.without(2), -1);
        x = with("open ~ b any any 1;open ~ c any any 4;word b noun 1;strange 10;", "~");
        due("strange without it", x.without(0), 14);
        x = with("open ~ c any any 1;open ~ d any any 4;strange 10;", "~");
        x.fix(0, 0);
        due("strange is still there", x.without(0), 14);
    }

    static String shortOf(ShortForms x, int entry) {
        StringBuilder b = new StringBuilder();
        for (int i = 0; i < x.shortest(entry); i++) {
            b.append((char) x.shortByte(entry, i));
        }
        return b.toString();
    }

    static void shortIs(String text, int entry, String want) {
        ShortForms x = with(text, "");
        String got = shortOf(x, entry);
        if (!got.equals(want)) {
            due("short " + got + " for " + want, 0, 1);
        }
    }

    static void promise27() {
        ShortForms x = with(BASE, "");
        due("net: n~t", x.shortest(2), 3);
        due("et: &", x.shortest(3), 1);
        due("no such entry", x.shortest(4), -1);
        due("no such entry", x.shortest(-1), -1);
        x = with("word abcdefgh noun 1;open ~ bcdefg any any 999;", "");
        due("a~h, whatever it weighs", x.shortest(0), 3);
        x = with("word abcdefgh noun 1;open ~ bcdefg any sign 1;open & - any any 1;", "");
        due("a~&h: none to bear the sign ahead", x.shortest(0), 4);
        x = with("word abcdefgh noun 1;", "");
        due("itself", x.shortest(0), 8);
        text(x, "word abcdefgh noun 1;open ~ abcdef any any 1;");
        due("of the text read last", x.shortest(0), 3);
    }

    static void promise28() {
        shortIs("word abc noun 1;", 0, "abc");
        shortIs("word abc noun 1;open ~ abc any any 1;open + abc any any 9;open # abc start end 9;", 0, "#");
        shortIs("word abc noun 1;open ~ bc any any 1;open ~ ab any any 1;open + bc b any 1;", 0, "a~");
        shortIs("word ab noun 1;open ~ a any any 1;open ~ b any any 1;open # b vowel end 1;", 0, "a#");
        shortIs("word abab noun 1;open & ab start any 1;open & ab any sign 1;open % ab any end 1;", 0, "&%");
        shortIs("word abab noun 1;open & ab any sign 1;open % ab b any 1;open % - b any 1;", 0, "&%");
        shortIs("word aabb noun 1;open = aa any cons 1;open ^ bb any vowel 1;open ~ bb a end 1;", 0, "=bb");
        // Two OPENINGS of one beginning: only one of them goes on.
        shortIs("word abcde noun 1;open # ab any any 1;open # abc any any 1;open & de c any 1;open % cde x any 1;", 0, "#&");
        ShortForms x = with(BASE, "");
        due("byte", x.shortByte(3, 0), '&');
        due("beyond", x.shortByte(3, 1), -2);
        due("below 0", x.shortByte(3, -1), -1);
        due("no such entry", x.shortByte(4, 0), -1);
        due("no such entry", x.shortByte(-1, 0), -1);
        x.weigh(4, 999);
        due("weights aside", x.shortByte(3, 0), '&');
    }

    static void promise29() {
        ShortForms x = with(BASE, "n~ n~t a& xx");
        due("ne, na", x.fits(0), 3);
        due("net", x.fits(1), 4);
        due("dark", x.fits(2), 0);
        due("strange", x.fits(3), 0);
        x.fix(0, 0);
        due("fixed or not", x.fits(0), 3);
        due("no such word", x.fits(4), -1);
        due("no such word", x.fits(-1), -1);
        x = with("word a noun 1;".repeat(24), "a");
        due("all", x.fits(0), (1 << 24) - 1);
    }

    static void promise30() {
        ShortForms x = with(BASE, "n~ & n~t xx~ a&");
        due("learn", x.learn(), 4);
        due("1 three times", x.open(1, 5), 3);
        due("4 once", x.open(4, 5), 1);
        due("weight now", x.open(1, 6), 0);
        due("weight now", x.open(4, 6), 0);
        due("weight", x.open(1, 4), 4);
        due("best is cheaper", x.best(), 300);
        due("learn again", x.learn(), 4);
        due("together", x.count(5), 8);
        due("steps", x.count(6), 2);
        x = with("open ~ a any any 1;", "~~~~~~~~~~ ~~~~~~~~~~ ~~~~~~~~~~ ~~~~~~~~~~ ~~~~~~~~~~ ~~~~~~~~~~ ~~~~~~~~~~");
        for (int k = 0; k < 14; k++) {
            due("seventy", x.learn(), 70);
        }
        due("980", x.open(0, 5), 980);
        due("seventy all the same", x.learn(), 70);
        due("999 at most", x.open(0, 5), 999);
        x = with("open ~ a any any 1;".repeat(24), "~");
        due("of 24", x.learn(), 1);
        x.weigh(23, 0);
        due("the last, learnt at once", x.learn(), 1);
        due("it", x.open(23, 5), 1);
        due("together", x.count(5), 2);
        x = with(BASE, "n~");
        due("ne is best", x.best(), 4);
        x.weigh(2, 0);
        due("na is best now", x.learn(), 1);
        due("which takes 2", x.open(2, 5), 1);
        x = with(PAIRS, "a b");
        x.fix(0, 0);
        x.fix(1, 1);
        due("no best", x.learn(), -2);
        due("which is no step", x.count(6), 2);
        page(x, "");
        due("without words", x.learn(), 0);
        due("which is a step", x.count(6), 1);
    }

    static void promise31() {
        ShortForms x = with(BASE, "n~ &");
        due("none yet", x.forget(), 0);
        x.learn();
        x.learn();
        due("four", x.forget(), 4);
        due("none", x.count(5), 0);
        due("of 1", x.open(1, 5), 0);
        due("weight now", x.open(1, 6), 4);
        due("best", x.best(), 6);
        due("steps", x.count(6), 4);
        x.undo();
        due("they are back", x.count(5), 4);
    }

    static void promise32() {
        ShortForms x = with(BASE, "n~");
        due("was", x.weigh(0, 3), 5);
        due("is", x.open(0, 4), 3);
        due("best", x.best(), 3);
        due("by 0", x.exactBy(0, 0, 0), 0);
        due("0", x.weigh(0, 0), 3);
        due("999", x.weigh(0, 999), 0);
        due("was 999", x.weigh(0, 999), 999);
        due("1000", x.weigh(0, 1000), -1);
        due("below 0", x.weigh(0, -1), -1);
        due("no such reading", x.weigh(6, 1), -1);
        due("no such reading", x.weigh(-1, 1), -1);
        due("steps", x.count(6), 4);
    }

    static void promise33() {
        ShortForms x = with(BASE, "n~ a& xx");
        due("na", x.fix(0, 1), 1);
        due("chosen", x.chosen(0), 1);
        due("dark", x.fix(1, 0), -3);
        due("strange", x.fix(2, 0), -2);
        due("ne", x.fix(0, 0), 0);
        due("bits", x.fixed(), 7);
        due("no such place", x.fix(0, 2), -9);
        due("no such place", x.fix(0, -1), -9);
        due("no such place", x.fix(1, 1), -9);
        due("no such word", x.fix(3, 0), -9);
        due("no such word", x.fix(-1, 0), -9);
        due("steps", x.count(6), 4);
        due("chosen", x.chosen(0), 0);
    }

    static void promise34() {
        ShortForms x = with(BASE, "n~ ne");
        due("not fixed", x.free(0), 0);
        x.fix(0, 1);
        x.fix(1, 0);
        due("fixed", x.free(0), 1);
        due("chosen", x.chosen(0), 0);
        due("no more", x.free(0), 0);
        due("the other is", x.fixed(), 2);
        due("no such word", x.free(2), -1);
        due("no such word", x.free(-1), -1);
    }

    static void promise35() {
        ShortForms x = with(BASE, "ne ne ne ne ne ne ne ne ne a&");
        due("none", x.fixed(), 0);
        x.fix(9, 0);
        due("the last", x.fixed(), 512);
        x.fix(0, 0);
        x.fix(4, 0);
        due("three", x.fixed(), 512 + 16 + 1);
        x.free(9);
        due("two", x.fixed(), 17);
        x.undo();
        due("three", x.fixed(), 512 + 16 + 1);
    }

    static void promise36() {
        // From 1: 1103527590 (16838), 2524885223 - 2^31 = 377401575 (5758), 662824084 (10113), 1147902781 (17515).
        ShortForms x = with(PAIRS + "pair noun verb 9;pair noun conj 8;pair verb verb 7;pair verb conj 6;seed 1;", "a b");
        due("16838 % 2 = 0, 5758 % 3 = 1: noun 1, verb 2", x.chance(1, 1, 0), 0);
        due("none was", x.chance(1, 1, 1), -2);
        due("10113 % 2 = 1, 17515 % 3 = 1: verb 2, verb 2", x.chance(1, 2, 0), 1);
        due("which costs", x.chance(1, 2, 1), 7);
        due("the seed of the text", x.chance(-1, 2, 1), 7);
        due("again the same", x.chance(-1, 2, 0), 1);
        x.fix(0, 1);
        due("a fixed one takes its draw, too: verb 2, verb 2, twice", x.chance(1, 2, 0), 2);
        x.fix(1, 2);
        due("both fixed", x.chance(2147483647, 100, 0), 100);
        due("both fixed", x.chance(0, 100, 1), 6);
        due("n 0", x.chance(1, 0, 0), -1);
        due("n 101", x.chance(1, 101, 0), -1);
        due("seed -2", x.chance(-2, 1, 0), -1);
        due("what 2", x.chance(1, 1, 2), -1);
        due("what -1", x.chance(1, 1, -1), -1);
        page(x, "");
        due("without words", x.chance(9, 50, 0), 50);
        due("without words", x.chance(9, 50, 1), 0);
    }

    static void promise37() {
        ShortForms x = with(BASE, "n~ ne");
        due("none", x.undo(), -1);
        x.learn();
        x.weigh(0, 1);
        x.fix(0, 1);
        x.free(0);
        x.forget();
        due("forget", x.undo(), 4);
        due("counts", x.count(5), 1);
        due("free", x.undo(), 3);
        due("fixed", x.fixed(), 1);
        due("fix", x.undo(), 2);
        due("fixed", x.fixed(), 0);
        due("weigh", x.undo(), 1);
        due("weight", x.open(0, 4), 5);
        due("learn", x.undo(), 0);
        due("counts", x.count(5), 0);
        due("none", x.undo(), -1);
        for (int k = 1; k <= 22; k++) {
            x.weigh(0, k);
        }
        due("20 at most", x.count(6), 20);
        for (int k = 19; k >= 0; k--) {
            due("undo", x.undo(), k);
        }
        due("the two oldest stay", x.open(0, 4), 2);
        due("none", x.undo(), -1);
        x.weigh(9, 1);
        x.weigh(0, -1);
        x.fix(5, 5);
        x.free(5);
        x.keep();
        x.chance(1, 1, 1);
        due("what is refused, or changes nothing there, is no step", x.count(6), 0);
    }

    static void promise38() {
        ShortForms x = with(BASE, "n~ ne");
        due("none fixed", x.keep(), 0);
        x.fix(0, 1);
        due("one", x.keep(), 1);
        x.fix(1, 0);
        x.weigh(0, 9);
        due("in place of the one ahead", x.back(), 1);
        due("fixed", x.fixed(), 1);
        due("weight", x.open(0, 4), 5);
        x.fix(1, 0);
        due("two", x.keep(), 2);
        due("steps stay", x.count(6), 1);
    }

    static void promise39() {
        ShortForms x = with(BASE, "n~ ne");
        due("there is none", x.back(), -1);
        x.learn();
        x.fix(0, 1);
        x.weigh(0, 77);
        x.keep();
        x.forget();
        x.free(0);
        x.fix(1, 0);
        x.weigh(0, 78);
        due("back", x.back(), 1);
        due("counts", x.count(5), 1);
        due("fixed", x.fixed(), 1);
        due("chosen", x.chosen(0), 1);
        due("weight", x.open(0, 4), 77);
        due("nothing to undo", x.count(6), 0);
        due("nothing to undo", x.undo(), -1);
        x.weigh(0, 80);
        due("it stays", x.back(), 1);
        due("weight", x.open(0, 4), 77);
        x.weigh(0, 81);
        x.undo();
        due("undo leaves the image", x.back(), 1);
        page(x, "ne");
        due("a page read: none", x.back(), -1);
    }

    static void promise40() {
        ShortForms x = with(BASE, "n~ a& xx & ~'");
        x.learn();
        feed(x, "a");
        int[] want = {6, 4, 5, 100, 2, 2, 1, 20, 2, 1};
        for (int what = 0; what < want.length; what++) {
            due("count " + what, x.count(what), want[what]);
        }
        due("count 10", x.count(10), -1);
        due("count -1", x.count(-1), -1);
        x.page(0);
        page(x, "ne a& a&");
        due("dark, asked first", x.count(8), 2);
        page(x, "ne xx xx xx");
        due("strange, asked first", x.count(9), 3);
    }

    public static void main(String[] args) {
        Runnable[] all = {PromiseTest::promise1, PromiseTest::promise2, PromiseTest::promise3, PromiseTest::promise4,
            PromiseTest::promise5, PromiseTest::promise6, PromiseTest::promise7, PromiseTest::promise8,
            PromiseTest::promise9, PromiseTest::promise10, PromiseTest::promise11, PromiseTest::promise12,
            PromiseTest::promise13, PromiseTest::promise14, PromiseTest::promise15, PromiseTest::promise16,
            PromiseTest::promise17, PromiseTest::promise18, PromiseTest::promise19, PromiseTest::promise20,
            PromiseTest::promise21, PromiseTest::promise22, PromiseTest::promise23, PromiseTest::promise24,
            PromiseTest::promise25, PromiseTest::promise26, PromiseTest::promise27, PromiseTest::promise28,
            PromiseTest::promise29, PromiseTest::promise30, PromiseTest::promise31, PromiseTest::promise32,
            PromiseTest::promise33, PromiseTest::promise34, PromiseTest::promise35, PromiseTest::promise36,
            PromiseTest::promise37, PromiseTest::promise38, PromiseTest::promise39, PromiseTest::promise40};
        for (Runnable one : all) {
            promise++;
            one.run();
        }
        System.out.println("PromiseTest: " + promise + " promises, "
            + (wrong == 0 ? "all answers are as due" : wrong + " answers are not as due"));
        if (wrong != 0) {
            System.exit(1);
        }
    }
}
