import java.io.IOException;
import java.nio.file.Files;
import java.nio.file.Path;
import java.util.regex.Matcher;
import java.util.regex.Pattern;

/** What of LANGUAGE.md can be seen in the text of the program. */
public final class LanguageTest {
    private static final String[] RULED_OUT = {
        "->", "::", "\\bfinally\\b", "\\bsynchronized\\b", "\\bassert\\b", "\\bcatch\\b", "\\btry\\b", "Exact\\b",
        "\\bFloat\\b", "\\bDouble\\b", "\\bObject\\b", "\\bRandom\\b", "\\bThread\\b", "\\bException\\b", "\\bString\\b",
        "System\\.(?!arraycopy\\b)", "Arrays\\.(?!(fill|copyOf|copyOfRange)\\b)", "Math\\.(?!(min|max|abs)\\b)",
        "Integer\\.(?!(bitCount|MAX_VALUE|MIN_VALUE)\\b)", "static \\{", "\\bpackage\\b", "\\bprotected\\b",
        "\\bgetClass\\b", "\\bhashCode\\b", "\\btoString\\b", "\\bequals\\b", "\\[\\]\\[\\]\\[\\]",
        "(?m)^import (?!java\\.util\\.(Arrays|NoSuchElementException);)", "\\bfor \\(;", "while \\(true\\)",
        "(?m)^\\s*(private |public )?static (?!final|int|void|boolean)"};

    public static void main(String[] args) throws IOException {
        String source = Files.readString(Path.of("src/main/java/EnginesOut.java"));
        String code = source.replaceAll("(?s)/\\*.*?\\*/", "").replaceAll("//[^\n]*", "");
        for (String ruledOut : RULED_OUT) {
            Matcher m = Pattern.compile(ruledOut).matcher(code);
            Checks.due("it has " + ruledOut, m.find(), false);
        }
        Checks.due("signs are plain", source.chars().allMatch(c -> c == '\n' || c >= 32 && c < 127), true);
        methods(code);
        made(code);
        Checks.close("LanguageTest");
    }

    private static void methods(String code) {
        Matcher m = Pattern.compile("(?m)^( +)(?=\\w)(?:[\\w\\[\\]]+ )*\\w+\\(([^()]*)\\)[^;{}]*\\{$").matcher(code);
        int many = 0;
        while (m.find()) {
            String head = m.group().trim();
            if (!head.matches("(if|for|while|switch|else|return|\\}) .*")) {
                many++;
                int end = code.indexOf("\n" + m.group(1) + "}", m.end());
                long lines = code.substring(m.start(), end).lines().count() + 1;
                Checks.due(head + " has too many lines: " + lines, lines > 60, false);
                Checks.due(head + " takes too much", m.group(2).split(",").length > 7, false);
            }
        }
        Checks.due("methods were looked at", many > 100, true);
    }

    /** Nothing is made but with an object, and one planner for it: the room of a run is one for all its calls. */
    private static void made(String code) {
        Matcher m = Pattern.compile("(?m)^.*\\bnew .*$").matcher(code);
        while (m.find()) {
            String line = m.group().trim();
            boolean isField = line.matches("(private )?final .* = new .*");
            boolean isOther = line.equals("plan = new Planner();") || line.equals("throw new NoSuchElementException();");
            Checks.due("made elsewhere: " + line, isField || isOther, true);
        }
    }
}
