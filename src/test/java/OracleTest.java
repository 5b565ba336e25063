import java.util.ArrayDeque;
import java.util.ArrayList;
import java.util.Arrays;
import java.util.List;
import java.util.NoSuchElementException;
import java.util.Random;

/**
 * Plays random runs on a ShortForms and on a slow model of the document that lists every
 * OPENING and every READING OF THE PAGE, and compares every answer.
 */
public final class OracleTest {
    static final String SIGNS = "~^'&@#%*+=";
    static int wrong = 0;
    static String where = "";

    static void due(String call, long got, long want) {
        if (got != want) {
            wrong++;
            if (wrong < 40) {
                System.out.println(where + ": " + call + " answered " + got + ", due is " + want);
            }
        }
    }

    record Rule(int sign, String letters, String behind, String ahead, int weight) { }

    record Entry(String letters, int kind, int form) { }

    record Opening(String letters, int[] path) { }

    record Choice(int who, int cost, String letters, int[] path) { }

    record Reading(int[] places, int cost) { }

    record State(int[] weight, int[] times, int[] fixed) {
        State copy() {
            return new State(weight.clone(), times.clone(), fixed.clone());
        }
    }

    static final int FREE = -9;

    static final class Model {
        final List<Rule> rules = new ArrayList<>();
        final List<Entry> entries = new ArrayList<>();
        final boolean[][] agree = new boolean[5][5];
        final int[][] pair = new int[5][5];
        int strange = 500;
        int habit = 0;
        int seed = 0;
        String[] words = {};
        State now;
        final ArrayDeque<State> past = new ArrayDeque<>();
        State image;

        int weightNow(int r) {
            return Math.max(0, now.weight[r] - habit * now.times[r]);
        }

        static boolean isVowel(char c) {
            return "aeiou".indexOf(c) >= 0;
        }

        static boolean neighbour(String condition, char c) {
            switch (condition) {
                case "vowel": return Character.isLetter(c) && isVowel(c);
                case "cons": return Character.isLetter(c) && !isVowel(c);
                case "sign": return SIGNS.indexOf(c) >= 0;
                default: return condition.length() == 1 && condition.charAt(0) == c;
            }
        }

        boolean fits(Rule rule, String word, int at, String opened) {
            boolean behind = rule.behind.equals("any")
                || (rule.behind.equals("start") ? opened.isEmpty()
                    : !opened.isEmpty() && neighbour(rule.behind, opened.charAt(opened.length() - 1)));
            boolean last = at == word.length() - 1;
            boolean ahead = rule.ahead.equals("any")
                || (rule.ahead.equals("end") ? last : !last && neighbour(rule.ahead, word.charAt(at + 1)));
            return behind && ahead;
        }

        void open(String word, int at, String opened, List<Integer> path, int shut, List<Opening> all) {
            if (at == word.length()) {
                all.add(new Opening(opened, path.stream().mapToInt(i -> i).toArray()));
                return;
            }
            char c = word.charAt(at);
            if (Character.isLetter(c)) {
                open(word, at + 1, opened + c, path, shut, all);
                return;
            }
            for (int r = 0; r < rules.size(); r++) {
                Rule rule = rules.get(r);
                if (r != shut && SIGNS.charAt(rule.sign) == c && fits(rule, word, at, opened)) {
                    path.add(r);
                    open(word, at + 1, opened + rule.letters, path, shut, all);
                    path.remove(path.size() - 1);
                }
            }
        }

        List<Opening> openings(String word, int shut) {
            List<Opening> all = new ArrayList<>();
            open(word, 0, "", new ArrayList<>(), shut, all);
            return all;
        }

        int cost(Opening o) {
            int sum = 0;
            for (int r : o.path) {
                sum += weightNow(r);
            }
            return sum;
        }

        Opening first(List<Opening> all, String just) {
            Opening best = null;
            for (Opening o : all) {
                if (just != null && !o.letters.equals(just)) {
                    continue;
                }
                if (best == null || cost(o) < cost(best)
                    || cost(o) == cost(best) && Arrays.compare(o.path, best.path) < 0) {
                    best = o;
                }
            }
            return best;
        }

        List<Choice> choices(String word, int shut) {
            List<Opening> all = openings(word, shut);
            List<Choice> out = new ArrayList<>();
            for (int e = 0; e < entries.size(); e++) {
                Opening o = first(all, entries.get(e).letters);
                if (o != null) {
                    out.add(new Choice(e, cost(o), o.letters, o.path));
                }
            }
            if (out.isEmpty()) {
                Opening o = first(all, null);
                out.add(o != null ? new Choice(-2, cost(o) + strange, o.letters, o.path)
                    : new Choice(-3, 2 * strange, "", new int[0]));
            }
            return out;
        }

        List<List<Choice>> allChoices(int shut) {
            List<List<Choice>> all = new ArrayList<>();
            for (String word : words) {
                all.add(choices(word, shut));
            }
            return all;
        }

        /** The cost of these CHOICES, or -2 if they are no READING OF THE PAGE. */
        int costOf(List<List<Choice>> choices, int[] places) {
            int sum = 0;
            for (int w = 0; w < places.length; w++) {
                Choice c = choices.get(w).get(places[w]);
                sum += c.cost;
                int held = now.fixed[w];
                if (held != FREE && held != c.who && has(choices.get(w), held)) {
                    return -2;
                }
                if (w > 0) {
                    Choice b = choices.get(w - 1).get(places[w - 1]);
                    if (b.who >= 0 && c.who >= 0) {
                        Entry x = entries.get(b.who);
                        Entry y = entries.get(c.who);
                        if (agree[x.kind][y.kind] && x.form != y.form) {
                            return -2;
                        }
                        sum += pair[x.kind][y.kind];
                    }
                }
            }
            return sum;
        }

        static boolean has(List<Choice> choices, int who) {
            for (Choice c : choices) {
                if (c.who == who) {
                    return true;
                }
            }
            return false;
        }

        List<Reading> readings(List<List<Choice>> choices) {
            List<Reading> out = new ArrayList<>();
            int[] places = new int[words.length];
            while (true) {
                int cost = costOf(choices, places);
                if (cost >= 0) {
                    out.add(new Reading(places.clone(), cost));
                }
                int w = words.length - 1;
                while (w >= 0 && places[w] == choices.get(w).size() - 1) {
                    places[w] = 0;
                    w--;
                }
                if (w < 0) {
                    return out;
                }
                places[w]++;
            }
        }

        /** The list goes by places, so the first of the least cost is BEST. */
        static Reading best(List<Reading> all) {
            Reading best = null;
            for (Reading r : all) {
                if (best == null || r.cost < best.cost) {
                    best = r;
                }
            }
            return best;
        }

        int[] takes(List<List<Choice>> choices, Reading best) {
            int[] out = new int[rules.size()];
            for (int w = 0; w < words.length; w++) {
                for (int r : choices.get(w).get(best.places[w]).path) {
                    out[r]++;
                }
            }
            return out;
        }

        void note() {
            past.addLast(now.copy());
            if (past.size() > 20) {
                past.removeFirst();
            }
        }

        String shortOf(String letters) {
            List<Character> bytes = new ArrayList<>();
            for (char c = 33; c < 127; c++) {
                if (letters.indexOf(c) >= 0) {
                    bytes.add(c);
                }
                for (Rule rule : rules) {
                    if (SIGNS.charAt(rule.sign) == c && !bytes.contains(c)) {
                        bytes.add(c);
                    }
                }
            }
            for (int size = 1; size <= 8; size++) {
                String found = shortOf(letters, "", size, bytes);
                if (found != null) {
                    return found;
                }
            }
            return null;
        }

        String shortOf(String letters, String word, int more, List<Character> bytes) {
            if (more == 0) {
                for (Opening o : openings(word, -1)) {
                    if (o.letters.equals(letters)) {
                        return word;
                    }
                }
                return null;
            }
            for (char c : bytes) {
                String found = shortOf(letters, word + c, more - 1, bytes);
                if (found != null) {
                    return found;
                }
            }
            return null;
        }
    }

    static final String[] KINDS = {"noun", "verb", "adj", "prep", "conj"};

    static String letters(Random random, int least, int most) {
        String from = random.nextInt(4) == 0 ? "abcdefghijklmnopqrstuvwxyz" : "aemnt";
        StringBuilder b = new StringBuilder();
        int n = least + random.nextInt(most - least + 1);
        for (int i = 0; i < n; i++) {
            b.append(from.charAt(random.nextInt(from.length())));
        }
        // A TEXT's words may not be words of the language.
        return Arrays.asList("any", "end", "adj", "open", "word", "pair", "seed", "cons", "sign", "noun", "verb",
            "prep", "conj", "agree", "habit", "start", "vowel").contains(b.toString()) ? "a" : b.toString();
    }

    static String condition(Random random, String edge, boolean ahead) {
        switch (random.nextInt(10)) {
            case 0: return edge;
            case 1: return "vowel";
            case 2: return "cons";
            case 3: return letters(random, 1, 1);
            case 4: return ahead ? "sign" : "any";
            default: return "any";
        }
    }

    static String tell(Model m, Random random) {
        StringBuilder b = new StringBuilder();
        int spread = random.nextInt(3) == 0 ? 999 : random.nextInt(2) == 0 ? 3 : 40;
        int signs = 1 + random.nextInt(4);
        int shift = random.nextInt(10);
        int rules = 1 + random.nextInt(9);
        for (int r = 0; r < rules; r++) {
            int sign = (shift + 3 * random.nextInt(signs)) % 10;
            String l = letters(random, random.nextInt(5) == 0 ? 0 : 1, 2 + random.nextInt(2));
            Rule rule = new Rule(sign, l, condition(random, "start", false), condition(random, "end", true),
                random.nextInt(spread + 1));
            m.rules.add(rule);
            b.append("open ").append(SIGNS.charAt(sign)).append(' ').append(l.isEmpty() ? "-" : l).append(' ')
                .append(rule.behind).append(' ').append(rule.ahead).append(' ').append(rule.weight).append(';');
        }
        int entries = random.nextInt(8);
        for (int e = 0; e < entries; e++) {
            String l = e > 0 && random.nextInt(3) == 0 ? m.entries.get(e - 1).letters : letters(random, 1, 5);
            Entry entry = new Entry(l, random.nextInt(random.nextBoolean() ? 2 : 5), random.nextInt(3));
            m.entries.add(entry);
            b.append("word ").append(l).append('\n').append(KINDS[entry.kind]).append(' ').append(entry.form).append(";");
        }
        for (int k = random.nextInt(4); k > 0; k--) {
            int p = random.nextInt(random.nextBoolean() ? 2 : 5);
            int q = random.nextInt(random.nextBoolean() ? 2 : 5);
            if (!m.agree[p][q]) {
                m.agree[p][q] = true;
                b.append("agree ").append(KINDS[p]).append(' ').append(KINDS[q]).append(" ; ");
            }
            p = random.nextInt(2);
            q = random.nextInt(5);
            if (m.pair[p][q] == 0) {
                m.pair[p][q] = 1 + random.nextInt(spread);
                b.append("pair ").append(KINDS[p]).append(' ').append(KINDS[q]).append(' ').append(m.pair[p][q]).append(';');
            }
        }
        if (random.nextBoolean()) {
            m.strange = random.nextInt(1000);
            b.append("strange ").append(m.strange).append(';');
        }
        if (random.nextInt(3) > 0) {
            m.habit = random.nextInt(random.nextBoolean() ? 3 : 100);
            b.append("habit ").append(m.habit).append(';');
        }
        if (random.nextBoolean()) {
            m.seed = random.nextInt(100000);
            b.append("seed ").append(m.seed).append(';');
        }
        int[] weight = new int[24];
        for (int r = 0; r < m.rules.size(); r++) {
            weight[r] = m.rules.get(r).weight;
        }
        m.now = new State(weight, new int[24], freed());
        return b.toString();
    }

    static int[] freed() {
        int[] fixed = new int[10];
        Arrays.fill(fixed, FREE);
        return fixed;
    }

    static String word(Model m, Random random) {
        String w = m.entries.isEmpty() || random.nextInt(6) == 0 ? letters(random, 1, 4)
            : m.entries.get(random.nextInt(m.entries.size())).letters;
        for (int k = random.nextInt(4); k > 0; k--) {
            Rule rule = m.rules.get(random.nextInt(m.rules.size()));
            String sign = SIGNS.substring(rule.sign, rule.sign + 1);
            int at = rule.letters.isEmpty() ? random.nextInt(w.length() + 1) : w.indexOf(rule.letters);
            if (at >= 0) {
                w = w.substring(0, at) + sign + w.substring(at + rule.letters.length());
            }
        }
        if (random.nextInt(8) == 0) {
            w += SIGNS.charAt(random.nextInt(10));
        }
        return w.length() > 10 ? w.substring(0, 10) : w;
    }

    static void turnPage(Model m, Lasting x, Random random) {
        int n = random.nextInt(20) == 0 ? 0 : 1 + random.nextInt(4);
        m.words = new String[n];
        StringBuilder b = new StringBuilder(random.nextBoolean() ? "" : " \n");
        for (int w = 0; w < n; w++) {
            m.words[w] = word(m, random);
            b.append(m.words[w]).append(w < n - 1 || random.nextBoolean() ? "  ".substring(random.nextInt(2)) : "");
        }
        String page = b.toString();
        due("page " + page, x.change(Tape.feeds(page) + 1, s -> Tape.page(s, page)), n);
        m.now = new State(m.now.weight, m.now.times, freed());
        m.past.clear();
        m.image = null;
    }

    static int sum(int[] of) {
        return Arrays.stream(of).sum();
    }

    static int fixedBits(Model m) {
        int bits = 0;
        for (int w = 0; w < 10; w++) {
            bits |= m.now.fixed[w] != FREE ? 1 << w : 0;
        }
        return bits;
    }

    static void compareTable(Model m, Lasting x) {
        for (int r = 0; r < m.rules.size(); r++) {
            Rule rule = m.rules.get(r);
            due("open 0", x.ask().open(r, 0), rule.sign);
            due("open 1", x.ask().open(r, 1), rule.letters.length());
            due("open 2", x.ask().open(r, 2), code(rule.behind, "start"));
            due("open 3", x.ask().open(r, 3), code(rule.ahead, "end"));
            due("open 4", x.ask().open(r, 4), m.now.weight[r]);
            due("open 5", x.ask().open(r, 5), m.now.times[r]);
            due("open 6", x.ask().open(r, 6), m.weightNow(r));
            compareLetters("letter of reading", rule.letters, x, r, true);
        }
        for (int e = 0; e < m.entries.size(); e++) {
            Entry entry = m.entries.get(e);
            due("entry 0", x.ask().entry(e, 0), entry.letters.length());
            due("entry 1", x.ask().entry(e, 1), entry.kind);
            due("entry 2", x.ask().entry(e, 2), entry.form);
            compareLetters("letter of entry", entry.letters, x, e, false);
        }
        int[] counts = {m.rules.size(), m.entries.size(), m.words.length, m.strange, m.habit, sum(m.now.times), m.past.size(), 0};
        for (int what = 0; what < counts.length; what++) {
            due("count " + what, x.ask().count(what), counts[what]);
        }
        due("fixed", x.ask().fixed(), fixedBits(m));
    }

    static int code(String condition, String edge) {
        List<String> names = List.of("any", edge, "vowel", "cons");
        return condition.equals("sign") ? 30 : names.contains(condition) ? names.indexOf(condition) : 4 + condition.charAt(0) - 'a';
    }

    static void compareLetters(String call, String letters, Lasting x, int which, boolean of) {
        for (int i = 0; i < letters.length(); i++) {
            due(call, x.ask().letter(of, which, i), letters.charAt(i));
        }
        due(call + " beyond", x.ask().letter(of, which, letters.length()), -2);
    }

    static void compareWords(Model m, Lasting x) {
        int dark = 0;
        int strange = 0;
        for (int w = 0; w < m.words.length; w++) {
            String word = m.words[w];
            for (int i = 0; i < word.length(); i++) {
                due("written", x.ask().written(w, i), word.charAt(i));
            }
            due("written beyond", x.ask().written(w, word.length()), -2);
            List<Opening> all = m.openings(word, -1);
            due("openings " + word, x.ask().openings(w), all.size());
            Opening least = m.first(all, null);
            due("least " + word, x.ask().least(w), least == null ? -2 : m.cost(least));
            String letters = least == null ? "" : least.letters;
            for (int i = 0; i <= letters.length(); i++) {
                due("leastLetter " + word, x.ask().leastLetter(w, i), i < letters.length() ? letters.charAt(i) : -2);
            }
            int fits = 0;
            for (int e = 0; e < m.entries.size(); e++) {
                Opening o = m.first(all, m.entries.get(e).letters);
                due("exact " + word + " " + e, x.ask().exact(w, e), o == null ? -2 : m.cost(o));
                int steps = o == null ? 0 : o.path.length;
                for (int k = 0; k <= steps; k++) {
                    due("exactBy " + word + " " + e, x.ask().exactBy(w, e, k), k < steps ? o.path[k] : -2);
                }
                fits |= o == null ? 0 : 1 << e;
            }
            due("fits " + word, x.ask().fits(w), fits);
            List<Choice> choices = m.choices(word, -1);
            due("choices " + word, x.ask().choices(w), choices.size());
            for (int p = 0; p < choices.size(); p++) {
                due("choice 0", x.ask().choice(w, p, 0), choices.get(p).who);
                due("choice 1", x.ask().choice(w, p, 1), choices.get(p).cost);
                due("choice 2", x.ask().choice(w, p, 2), choices.get(p).letters.length());
            }
            due("choice beyond", x.ask().choice(w, choices.size(), 0), -9);
            dark += choices.get(0).who == -3 ? 1 : 0;
            strange += choices.get(0).who == -2 ? 1 : 0;
        }
        due("count 8", x.ask().count(8), dark);
        due("count 9", x.ask().count(9), strange);
    }

    static int least(List<Reading> all, int word, int place, boolean not) {
        int least = -2;
        for (Reading r : all) {
            if ((r.places[word] == place) != not && (least < 0 || r.cost < least)) {
                least = r.cost;
            }
        }
        return least;
    }

    static void comparePage(Model m, Lasting x) {
        List<List<Choice>> choices = m.allChoices(-1);
        List<Reading> all = m.readings(choices);
        Reading best = Model.best(all);
        due("best", x.ask().best(), best == null ? -2 : best.cost);
        due("readings", x.ask().readings(), all.size());
        int sure = 0;
        int second = -2;
        StringBuilder opened = new StringBuilder();
        for (Reading r : all) {
            if (r != best && (second < 0 || r.cost < second)) {
                second = r.cost;
            }
        }
        for (int w = 0; w < m.words.length; w++) {
            due("chosen", x.ask().chosen(w), best == null ? -2 : best.places[w]);
            for (int p = 0; p < choices.get(w).size(); p++) {
                due("forced", x.ask().forced(w, p), least(all, w, p, false));
            }
            int other = best == null ? -2 : least(all, w, best.places[w], true);
            due("margin", x.ask().margin(w), other < 0 ? -2 : other - best.cost);
            if (best != null) {
                boolean one = true;
                for (Reading r : all) {
                    one &= r.cost != best.cost || r.places[w] == best.places[w];
                }
                sure |= one ? 1 << w : 0;
                opened.append(w > 0 ? " " : "").append(choices.get(w).get(best.places[w]).letters);
            }
        }
        due("second", x.ask().second(), second);
        due("sure", x.ask().sure(), best == null ? -2 : sure);
        for (int i = 0; i <= opened.length(); i++) {
            due("opened", x.ask().opened(i), i < opened.length() ? opened.charAt(i) : -2);
        }
        int[] takes = best == null ? null : m.takes(choices, best);
        for (int r = 0; r < m.rules.size(); r++) {
            due("takes", x.ask().takes(r), best == null ? -2 : takes[r]);
            Reading without = Model.best(m.readings(m.allChoices(r)));
            due("without " + r, x.ask().without(r), without == null ? -2 : without.cost);
        }
    }

    static void compareChance(Model m, Lasting x, Random random) {
        List<List<Choice>> choices = m.allChoices(-1);
        int seed = random.nextInt(3) == 0 ? -1 : random.nextBoolean() ? random.nextInt(1000) : random.nextInt() & 0x7fffffff;
        int n = 1 + random.nextInt(random.nextInt(4) == 0 ? 100 : 10);
        java.math.BigInteger last = java.math.BigInteger.valueOf(seed < 0 ? m.seed : seed);
        int hits = 0;
        int least = -2;
        for (int k = 0; k < n; k++) {
            int[] places = new int[m.words.length];
            for (int w = 0; w < places.length; w++) {
                last = last.multiply(java.math.BigInteger.valueOf(1103515245)).add(java.math.BigInteger.valueOf(12345))
                    .mod(java.math.BigInteger.ONE.shiftLeft(31));
                places[w] = (int) (last.longValue() / 65536 % choices.get(w).size());
                if (m.now.fixed[w] != FREE) {
                    for (int p = 0; p < choices.get(w).size(); p++) {
                        places[w] = choices.get(w).get(p).who == m.now.fixed[w] ? p : places[w];
                    }
                }
            }
            int cost = m.costOf(choices, places);
            if (cost >= 0) {
                hits++;
                least = least < 0 ? cost : Math.min(least, cost);
            }
        }
        due("chance 0", x.ask().chance(seed, n, 0), hits);
        due("chance 1", x.ask().chance(seed, n, 1), least);
    }

    static void act(Model m, Lasting x, Random random) {
        int r = random.nextInt(m.rules.size());
        switch (random.nextInt(9)) {
            case 0: case 1:
                Reading best = Model.best(m.readings(m.allChoices(-1)));
                if (best == null) {
                    due("learn", x.change(1, s -> s.learn()), -2);
                    break;
                }
                int[] takes = m.takes(m.allChoices(-1), best);
                m.note();
                for (int k = 0; k < takes.length; k++) {
                    m.now.times[k] = Math.min(999, m.now.times[k] + takes[k]);
                }
                due("learn", x.change(1, s -> s.learn()), sum(takes));
                break;
            case 2:
                due("forget", x.change(1, s -> s.forget()), sum(m.now.times));
                m.note();
                Arrays.fill(m.now.times, 0);
                break;
            case 3:
                int v = random.nextInt(1000);
                due("weigh", x.change(1, s -> s.weigh(r, v)), m.now.weight[r]);
                m.note();
                m.now.weight[r] = v;
                break;
            case 4: case 5:
                if (m.words.length > 0) {
                    int w = random.nextInt(m.words.length);
                    List<Choice> choices = m.choices(m.words[w], -1);
                    int p = random.nextInt(choices.size());
                    due("fix", x.change(1, s -> s.fix(w, p)), choices.get(p).who);
                    m.note();
                    m.now.fixed[w] = choices.get(p).who;
                }
                break;
            case 6:
                if (m.words.length > 0) {
                    int w = random.nextInt(m.words.length);
                    due("free", x.change(1, s -> s.free(w)), m.now.fixed[w] == FREE ? 0 : 1);
                    m.note();
                    m.now.fixed[w] = FREE;
                }
                break;
            case 7:
                for (int k = random.nextInt(3); k >= 0; k--) {
                    if (!m.past.isEmpty()) {
                        m.now = m.past.removeLast();
                        due("undo", x.change(1, s -> s.undo()), m.past.size());
                    } else {
                        due("undo", x.change(1, s -> s.undo()), -1);
                    }
                }
                break;
            default:
                if (random.nextInt(3) > 0) {
                    m.image = m.now.copy();
                    due("keep", x.change(1, s -> s.keep()), Integer.bitCount(fixedBits(m)));
                } else if (m.image == null) {
                    due("back", x.change(1, s -> s.back()), -1);
                } else {
                    m.now = m.image.copy();
                    m.past.clear();
                    due("back", x.change(1, s -> s.back()), Integer.bitCount(fixedBits(m)));
                }
        }
    }

    static void compareAll(Model m, Lasting x, Random random) {
        // Whatever is asked first must not lean on what another call has made up to date.
        int first = random.nextInt(4);
        for (int k = 0; k < 4; k++) {
            switch ((first + k) % 4) {
                case 0: compareTable(m, x); break;
                case 1: compareWords(m, x); break;
                case 2: comparePage(m, x); break;
                default: compareChance(m, x, random);
            }
        }
    }

    static void play(int run) {
        Random random = new Random(run);
        Model m = new Model();
        Lasting x = new Lasting();
        String text = tell(m, random);
        where = "run " + run + " of " + text;
        if (text.length() > 880) {
            return;
        }
        due("text", x.change(Tape.feeds(text) + 1, s -> Tape.text(s, text)), text.chars().filter(c -> c == ';').count());
        compareAll(m, x, random);
        for (int e = 0; e < m.entries.size(); e++) {
            if (m.entries.get(e).letters.length() <= 4 || run % 5 == 0) {
                String s = m.shortOf(m.entries.get(e).letters);
                due("shortest " + e, x.ask().shortest(e), s.length());
                for (int i = 0; i <= s.length(); i++) {
                    due("shortByte " + e, x.ask().shortByte(e, i), i < s.length() ? s.charAt(i) : -2);
                }
            }
        }
        for (int pages = 0; pages < 3; pages++) {
            turnPage(m, x, random);
            compareAll(m, x, random);
            for (int k = 0; k < (run % 10 == 0 ? 40 : 8); k++) {
                act(m, x, random);
                if (random.nextInt(3) > 0) {
                    compareAll(m, x, random);
                }
            }
        }
    }

    public static void main(String[] args) {
        int runs = args.length > 0 ? Integer.parseInt(args[0]) : 600;
        for (int run = 0; run < runs; run++) {
            try {
                play(run);
            } catch (IndexOutOfBoundsException | NoSuchElementException e) {
                wrong++;
                System.out.println(where + ": threw " + e);
            }
        }
        System.out.println(wrong == 0 ? "OracleTest: all answers are as due" : "OracleTest: " + wrong + " answers are not as due");
        if (wrong != 0) {
            System.exit(1);
        }
    }
}
