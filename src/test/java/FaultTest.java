import java.util.ArrayList;
import java.util.Arrays;
import java.util.HashSet;
import java.util.List;
import java.util.Map;
import java.util.Random;
import java.util.Set;
import java.util.regex.Matcher;
import java.util.regex.Pattern;

/** Compares text(), page() and fault() on many spoilt texts and pages with a reader of its own, made from the document's words. */
public final class FaultTest {
    static final String SIGNS = "~^'&@#%*+=";
    static final List<String> KINDS = List.of("noun", "verb", "adj", "prep", "conj");
    static final Set<String> LANGUAGE = Set.of("open", "word", "agree", "pair", "strange", "habit", "seed", "any", "start",
        "vowel", "cons", "end", "sign", "noun", "verb", "adj", "prep", "conj");
    static final Map<String, String> SHAPES = Map.of("open", "SRBAw;", "word", "Wkf;", "agree", "kq;", "pair", "kqw;",
        "strange", "w;", "habit", "h;", "seed", "s;");
    static int wrong = 0;

    static void due(String call, long got, long want) {
        if (got != want) {
            wrong++;
            if (wrong < 40) {
                System.out.println(call + " answered " + got + ", due is " + want);
            }
        }
    }

    static int tokenFault(char slot, String token, String command, String[] kinds, Set<String> told) {
        boolean own = token.matches("[a-z]+") && !LANGUAGE.contains(token);
        boolean number = token.matches("[0-9]+");
        switch (slot) {
            case ';': return token.equals(";") ? 0 : 1;
            case 'S': return token.length() == 1 && SIGNS.contains(token) ? 0 : 1;
            case 'R': return token.equals("-") || own && token.length() <= 6 ? 0 : 1;
            case 'W': return own && token.length() <= 8 ? 0 : 1;
            case 'B': return List.of("any", "start", "vowel", "cons").contains(token) || own && token.length() == 1 ? 0 : 1;
            case 'A':
                return List.of("any", "end", "vowel", "cons", "sign").contains(token) || own && token.length() == 1 ? 0 : 1;
            case 'k':
                kinds[0] = token;
                return KINDS.contains(token) ? 0 : 1;
            case 'q':
                return !KINDS.contains(token) ? 1 : told.add(command + " " + kinds[0] + " " + token) ? 0 : 3;
            default:
                long most = Map.of('w', 999L, 'f', 9L, 'h', 99L, 's', 99999L).get(slot);
                return !number ? 1 : new java.math.BigInteger(token).compareTo(java.math.BigInteger.valueOf(most)) > 0 ? 2 : 0;
        }
    }

    /** The FAULT, its place, how many LINES, opens and words. */
    static int[] readText(String text) {
        Matcher m = Pattern.compile("[a-z]+|[0-9]+|[^ \n]").matcher(text);
        Set<String> told = new HashSet<>();
        int[] count = new int[3];
        String shape = "";
        String command = "";
        String[] kinds = new String[1];
        while (m.find()) {
            String token = m.group();
            int fault = 0;
            if (shape.isEmpty()) {
                command = token;
                shape = SHAPES.getOrDefault(token, "");
                if (shape.isEmpty()) {
                    fault = 1;
                } else if (token.equals("open") && ++count[1] > 24 || token.equals("word") && ++count[2] > 24) {
                    fault = 2;
                } else if (List.of("strange", "habit", "seed").contains(token) && !told.add(token)) {
                    fault = 3;
                }
            } else {
                fault = tokenFault(shape.charAt(0), token, command, kinds, told);
                shape = shape.substring(1);
                count[0] += shape.isEmpty() ? 1 : 0;
            }
            if (fault != 0) {
                return new int[] {fault, m.start(), -1, 0, 0};
            }
        }
        return shape.isEmpty() ? new int[] {0, -1, count[0], count[1], count[2]} : new int[] {1, text.length(), -1, 0, 0};
    }

    static int[] readPage(String text) {
        int words = 0;
        int size = 0;
        for (int i = 0; i < text.length(); i++) {
            char c = text.charAt(i);
            if (c == ' ' || c == '\n') {
                size = 0;
            } else if (!(c >= 'a' && c <= 'z') && SIGNS.indexOf(c) < 0) {
                return new int[] {1, i, -1};
            } else {
                words += size == 0 ? 1 : 0;
                size++;
                if (words > 10 || size > 10) {
                    return new int[] {2, i, -1};
                }
            }
        }
        return new int[] {0, -1, words};
    }

    static String line(Random random) {
        List<String> conditions = List.of("any", "start", "vowel", "cons", "end", "sign", "a", "z", "ab");
        int kind = random.nextInt(10);
        String k = KINDS.get(random.nextInt(5));
        String q = KINDS.get(random.nextInt(5));
        String sign = "" + SIGNS.charAt(random.nextInt(10));
        switch (kind) {
            case 0: return "strange " + random.nextInt(1100);
            case 1: return "habit " + random.nextInt(110);
            case 2: return "seed " + random.nextInt(110000);
            case 3: return "agree " + k + " " + q;
            case 4: return "pair " + k + " " + q + " " + random.nextInt(1010);
            case 5: case 6: return "word " + "abcdefghij".substring(random.nextInt(9)) + " " + k + " " + random.nextInt(11);
            default:
                return "open " + sign + " " + (random.nextInt(6) == 0 ? "-" : "uvwxyzu".substring(random.nextInt(7))) + " "
                    + conditions.get(random.nextInt(random.nextInt(4) == 0 ? 9 : 4)) + " "
                    + conditions.get(random.nextInt(4) == 0 ? random.nextInt(9) : 2 + random.nextInt(2)) + " "
                    + random.nextInt(1010);
        }
    }

    static String spoil(String text, Random random) {
        StringBuilder b = new StringBuilder(text);
        String bytes = "; \n\t-~&abz019A" + (char) 0 + (char) 200 + (char) 255;
        for (int k = random.nextInt(4); k > 0 && b.length() > 0; k--) {
            int at = random.nextInt(b.length());
            char c = bytes.charAt(random.nextInt(bytes.length()));
            switch (random.nextInt(5)) {
                case 0: b.setCharAt(at, c); break;
                case 1: b.deleteCharAt(at); break;
                case 2: b.insert(at, c); break;
                case 3: b.insert(at, "any 12345678901234567890".substring(random.nextInt(4))); break;
                default: b.setLength(at);
            }
        }
        return b.toString();
    }

    static String text(Random random) {
        StringBuilder b = new StringBuilder();
        if (random.nextInt(6) == 0) {
            String one = random.nextBoolean() ? "open ~ a any any 1;" : "word b noun 1;";
            for (int k = 23 + random.nextInt(3); k > 0; k--) {
                b.append(one);
            }
        }
        for (int k = random.nextInt(8); k > 0; k--) {
            b.append(line(random)).append(random.nextInt(3) == 0 ? " ;\n" : ";");
        }
        return spoil(b.toString(), random);
    }

    static String page(Random random) {
        StringBuilder b = new StringBuilder(random.nextBoolean() ? " " : "");
        for (int k = random.nextInt(random.nextBoolean() ? 5 : 13); k > 0; k--) {
            b.append("ab~c'd&efg@h".substring(random.nextInt(12) > 0 ? 2 + random.nextInt(10) : 0)).append(random.nextBoolean() ? " " : "\n ");
        }
        return random.nextBoolean() ? b.toString() : spoil(b.toString(), random);
    }

    static void compare(String call, ShortForms x, int got, int[] want) {
        due(call, got, want[2]);
        due(call + " fault 0", x.fault(0), want[0]);
        due(call + " fault 1", x.fault(1), want[1]);
        due(call + " tape", x.count(7), 0);
    }

    public static void main(String[] args) {
        Random random = new Random(7);
        int[] seen = new int[4];
        for (int run = 0; run < 4000; run++) {
            ShortForms x = new ShortForms();
            int opens = 0;
            int entries = 0;
            int words = 0;
            for (int k = 0; k < 6; k++) {
                boolean isText = random.nextInt(3) > 0;
                String t = isText ? text(random) : page(random);
                if (t.length() > 900) {
                    continue;
                }
                int[] want = isText ? readText(t) : readPage(t);
                compare((isText ? "text of " : "page of ") + t, x, isText ? Tape.text(x, t) : Tape.page(x, t), want);
                seen[want[0]]++;
                if (want[0] == 0 && isText) {
                    opens = want[3];
                    entries = want[4];
                    words = 0;
                } else if (want[0] == 0) {
                    words = want[2];
                }
                due("opens after " + t, x.count(0), opens);
                due("entries after " + t, x.count(1), entries);
                due("words after " + t, x.count(2), words);
            }
        }
        System.out.println("FaultTest: without, 1, 2, 3: " + Arrays.toString(seen)
            + (wrong == 0 ? ", all answers are as due" : ", " + wrong + " answers are not as due"));
        if (wrong != 0) {
            System.exit(1);
        }
    }
}
