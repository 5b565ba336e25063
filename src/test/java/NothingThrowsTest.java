import java.util.NoSuchElementException;
import java.util.Random;

/** Calls with arguments of all sizes in all states: nothing but what open() is allowed may ever come out. */
public final class NothingThrowsTest {
    static final int[] EDGES = {-2147483648, -1000, -2, -1, 0, 1, 2, 3, 5, 9, 10, 11, 20, 23, 24, 25, 59, 60, 61, 100, 101,
        899, 900, 901, 999, 1000, 2147483646, 2147483647};
    static final String TEXT = "open ~ a any any 1;open ~ - any any 0;open & bcdefg start sign 999;open + a vowel end 3;"
        + "word abcdefgh noun 1;word a noun 2;word a verb 3;word aa conj 9;agree noun verb;agree noun noun;pair verb noun 999;habit 99;";
    static final String FULL = "open ~ a any any 1;".repeat(23) + "open & - any any 1;" + "word a noun 1;".repeat(20)
        + "word abcdefgh noun 1;".repeat(4);
    static final String[] PAGES = {"~~~~~~~~~~ ~&~&~&~&~& ~~~~~~~~~~ ~ ~ ~ ~ a a a", "~~~~~~~~~~ &~ a ~ ~~ a~a~", "++ & b aa", "", "a a a a a a a a a a", "?", "&&&&&&&&&& bcdefg~h"};

    /** What an object is used for at most, and how many of these one step here can take. */
    static final int CALLS = 512;
    static final int MOST_AT_ONCE = Tape.feeds(TEXT) + 4;

    static int any(Random random) {
        return random.nextInt(4) > 0 ? random.nextInt(random.nextBoolean() ? 8 : 25) : EDGES[random.nextInt(EDGES.length)];
    }

    /** How many calls it made. */
    static int call(ShortForms x, Random random) {
        int a = any(random);
        int b = any(random);
        int c = any(random);
        switch (random.nextInt(44)) {
            case 0: x.feed(random.nextInt(), a, b, c, random.nextInt()); break;
            case 1: if (random.nextInt(8) == 0) { x.text(a); } break;
            case 2: if (random.nextInt(8) == 0) { x.page(a); } break;
            case 3: x.fault(a); break;
            case 4: x.entry(a, b); break;
            case 5: x.letter(random.nextBoolean(), a, b); break;
            case 6: x.written(a, b); break;
            case 7: x.openings(a); break;
            case 8: x.least(a); break;
            case 9: x.leastLetter(a, b); break;
            case 10: x.exact(a, b); break;
            case 11: x.exactBy(a, b, c); break;
            case 12: x.choices(a); break;
            case 13: x.choice(a, b, c); break;
            case 14: x.best(); break;
            case 15: x.chosen(a); break;
            case 16: x.opened(a); break;
            case 17: x.takes(a); break;
            case 18: x.readings(); break;
            case 19: x.forced(a, b); break;
            case 20: x.margin(a); break;
            case 21: x.second(); break;
            case 22: x.sure(); break;
            case 23: x.without(a); break;
            case 24: x.shortest(a); break;
            case 25: x.shortByte(a, b); break;
            case 26: x.fits(a); break;
            case 27: x.learn(); break;
            case 28: x.forget(); break;
            case 29: x.weigh(a, b); break;
            case 30: case 31: x.fix(a, b); break;
            case 32: x.free(a); break;
            case 33: x.fixed(); break;
            case 34: x.chance(a, b, c); break;
            case 35: x.undo(); break;
            case 36: x.keep(); break;
            case 37: x.back(); break;
            case 38: x.count(a); break;
            case 39: case 40:
                return readPage(x, PAGES[random.nextInt(PAGES.length)]);
            case 41:
                return random.nextInt(10) == 0 ? readTextAnew(x) : 0;
            default:
                openOf(x, a, b);
                return 2;
        }
        return 1;
    }

    static int readPage(ShortForms x, String page) {
        int fed = Tape.feed(x, page, ' ');
        x.page(x.count(7));
        return fed + 2;
    }

    static int readTextAnew(ShortForms x) {
        x.text(x.count(7));
        int fed = Tape.feed(x, TEXT, ' ');
        x.text(x.count(7));
        return fed + 4;
    }

    static void openOf(ShortForms x, int a, int b) {
        boolean there = a >= 0 && a < x.count(0);
        try {
            x.open(a, b);
        } catch (IndexOutOfBoundsException e) {
            if (there || e.getClass() != IndexOutOfBoundsException.class) {
                throw new IllegalStateException("open threw " + e);
            }
        } catch (NoSuchElementException e) {
            if (!there || b >= 0 && b < 7) {
                throw new IllegalStateException("open threw " + e);
            }
        }
    }

    public static void main(String[] args) {
        Random random = new Random(11);
        for (int run = 0; run < 600; run++) {
            ShortForms x = new ShortForms();
            int made = 0;
            if (run % 4 > 0) {
                made = Tape.feed(x, run % 4 > 1 ? TEXT : FULL, ' ') + 2;
                if (x.text(x.count(7)) != (run % 4 > 1 ? 12 : 48)) {
                    throw new IllegalStateException("the text was refused at " + x.fault(1));
                }
            }
            while (made < CALLS - MOST_AT_ONCE) {
                made += call(x, random);
            }
        }
        System.out.println("NothingThrowsTest: nothing was thrown");
    }
}
