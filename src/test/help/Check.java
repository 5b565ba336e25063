import java.util.HashSet;
import java.util.Set;

/** Compares answers with what is due, and tells which sentence of the document a wrong one breaks. */
final class Check {
    private static int wrong = 0;
    private static int checked = 0;
    private static final Set<String> SENTENCES = new HashSet<>();
    private static String sentence = "";

    private Check() {
    }

    /** What is compared from here on stands for these words of the document. */
    static void says(String words) {
        sentence = words;
        SENTENCES.add(words);
    }

    static void due(String call, long got, long want) {
        checked++;
        if (got != want) {
            wrong++;
            System.out.println("[" + sentence + "] " + call + " answered " + got + ", due is " + want);
        }
    }

    static void end(String test) {
        System.out.println(test + ": " + SENTENCES.size() + " sentences, " + checked + " answers, "
            + (wrong == 0 ? "all as due" : wrong + " not as due"));
        if (wrong != 0) {
            System.exit(1);
        }
    }
}
