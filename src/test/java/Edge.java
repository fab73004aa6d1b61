import java.io.IOException;
import java.nio.file.Files;
import java.nio.file.Path;
import java.util.LinkedHashSet;
import java.util.Map;
import java.util.Set;
import java.util.TreeMap;
import java.util.regex.Matcher;
import java.util.regex.Pattern;

/**
 * Sentences of the document, each quoted ahead of the answers that it asks for. A quote that the
 * document does not have is a fault, and so is a word of its Terms or promises that none quotes.
 */
final class Edge {
    static final int TERMS = 0;
    /** What stands ahead of the Terms: it may be quoted, but need not be. */
    static final int WHAT_IT_IS = -1;
    private static final int PROMISES = 46;
    private static final Map<Integer, String> TEXTS = new TreeMap<>();
    private static final Map<Integer, boolean[]> QUOTED = new TreeMap<>();
    private static String sentence = "";
    private static int answers = 1;
    private static final Set<String> SENTENCES = new LinkedHashSet<>();
    private static final Set<String> BROKEN = new LinkedHashSet<>();

    private Edge() {
    }

    static void read(Path document) throws IOException {
        String all = Files.readString(document);
        put(WHAT_IT_IS, section(all, "What it is"));
        put(TERMS, section(all, "Terms").replaceAll("(?m)^Ahead of .*$|^```.*$|^\\d+\\. ", ""));
        for (int promise = 1; promise <= PROMISES; promise++) {
            put(promise, section(all, "Promise " + promise + ": [^\n]*").replaceFirst("`[^`]*`: ", ""));
        }
    }

    private static String section(String all, String head) {
        Matcher m = Pattern.compile("(?ms)^## " + head + "\n(.*?)(?=^## )").matcher(all);
        return m.find() ? m.group(1) : "";
    }

    private static void put(int promise, String text) {
        String plain = text.replaceAll("\\s+", " ").trim();
        TEXTS.put(promise, plain);
        QUOTED.put(promise, new boolean[plain.length()]);
    }

    /** The answers that are asked for next are those that this sentence tells. */
    static void says(int promise, String quote) {
        Checks.due("answers asked for by " + sentence, answers > 0, true);
        sentence = (promise <= TERMS ? "Terms" : promise) + ": " + quote;
        SENTENCES.add(sentence);
        answers = 0;
        int from = TEXTS.get(promise).indexOf(quote);
        Checks.due("the document has " + sentence, from >= 0, true);
        for (int i = from; from >= 0 && i < from + quote.length(); i++) {
            QUOTED.get(promise)[i] = true;
        }
    }

    static void due(String what, long got, long want) {
        answers++;
        int wrong = Checks.wrong();
        Checks.due("(" + sentence + ") " + what, got, want);
        note(wrong);
    }

    static void due(String what, boolean got, boolean want) {
        due(what, got ? 1 : 0, want ? 1 : 0);
    }

    static void due(String what, String got, String want) {
        boolean isSame = got.equals(want);
        due(isSame ? what : what + " is " + got + ", due is " + want + ":", isSame, true);
    }

    static void row(String what, EnginesOut x, long... want) {
        answers++;
        int wrong = Checks.wrong();
        Checks.rowIs("(" + sentence + ") " + what, x, want);
        note(wrong);
    }

    private static void note(int wrong) {
        if (Checks.wrong() > wrong) {
            BROKEN.add(sentence);
        }
    }

    static Set<String> sentences() {
        return SENTENCES;
    }

    /** Sentences that some answer broke. */
    static Set<String> broken() {
        return BROKEN;
    }

    static void allIsQuoted() {
        Checks.due("answers asked for by " + sentence, answers > 0, true);
        for (int promise : TEXTS.keySet()) {
            Checks.due("promise " + promise + " has a text", TEXTS.get(promise).isEmpty(), false);
            Matcher m = Pattern.compile("\\w+").matcher(TEXTS.get(promise));
            while (promise >= TERMS && m.find()) {
                Checks.due("promise " + promise + ", quoted: " + m.group() + " at " + m.start(), QUOTED.get(promise)[m.start()], true);
            }
        }
    }
}
