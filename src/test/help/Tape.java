/** Brings texts and pages to a ShortForms by its tape. */
final class Tape {
    private Tape() {
    }

    /** Feeds s, twenty bytes a call; what is left of the last twenty is filled up. How many calls that took. */
    static int feed(ShortForms x, String s, char fill) {
        int[] v = new int[5];
        for (int i = 0; i < s.length(); i += 20) {
            for (int k = 0; k < 20; k++) {
                v[k / 4] = v[k / 4] << 8 | (i + k < s.length() ? s.charAt(i + k) & 255 : fill);
            }
            x.feed(v[0], v[1], v[2], v[3], v[4]);
        }
        return feeds(s);
    }

    static int feeds(String s) {
        return (s.length() + 19) / 20;
    }

    /** Has s read as the TEXT; behind it stand bytes that must not be read. */
    static int text(ShortForms x, String s) {
        feed(x, s, '?');
        return x.text(s.length());
    }

    static int page(ShortForms x, String s) {
        feed(x, s, '?');
        return x.page(s.length());
    }
}
