import java.io.IOException;
import java.lang.reflect.Method;
import java.lang.reflect.Modifier;
import java.net.URL;
import java.net.URLClassLoader;
import java.nio.file.DirectoryStream;
import java.nio.file.Files;
import java.nio.file.Path;
import java.util.Set;
import java.util.TreeSet;
import java.util.regex.Matcher;
import java.util.regex.Pattern;
import javax.tools.ToolProvider;

/** README.md: its calls answer as it writes, and what it names is there. */
public final class ReadmeTest {
    private static final Pattern CALL = Pattern.compile(
        "(x\\.(\\w+)\\(.*\\)); +// (true|false|-?\\d+|throws \\w+)(?: \\[((?:-?\\d+(?:, )?)*)\\])?(?:: .+)?");
    private static final int MOST_CALLS = 512;
    private static int calls = 0;

    private ReadmeTest() {
    }

    public static void main(String[] args) throws Exception {
        String page = Files.readString(Path.of("README.md"));
        String code = blocks(page, "java");
        run(program(code));
        Checks.due("calls of the page's run are few enough: " + calls, calls > 0 && calls <= MOST_CALLS, true);
        faceIsThere(code);
        testsAreNamed(page);
        filesAreThere(page);
        Checks.close("ReadmeTest");
    }

    /** All blocks of a kind, one behind the other. */
    private static String blocks(String page, String kind) {
        StringBuilder all = new StringBuilder();
        Matcher m = Pattern.compile("(?ms)^```" + kind + "\n(.*?)^```$").matcher(page);
        while (m.find()) {
            all.append(m.group(1));
        }
        return all.toString();
    }

    /** A class that makes the page's run, each call compared with what is written behind it. */
    private static String program(String code) {
        StringBuilder is = new StringBuilder("public final class ReadmeRun { public static void run() {\n");
        String row = "";
        for (String line : code.split("\n")) {
            Matcher m = CALL.matcher(line);
            if (m.matches()) {
                // A call that no ROW is written behind leaves the one there was.
                row = m.group(4) == null ? row : m.group(4);
                is.append(compared(m.group(1), m.group(3))).append("ReadmeTest.rowIs(\"").append(m.group(1))
                    .append("\", x, \"").append(row).append("\");\n");
            } else {
                Checks.due("a call without its answer: " + line, line.startsWith("x."), false);
                is.append(line.replace("x.sign(v)", "ReadmeTest.counted(x.sign(v))")).append('\n');
            }
        }
        return is.append("} }\n").toString();
    }

    private static String compared(String call, String answer) {
        if (answer.startsWith("throws ")) {
            String thrown = answer.substring("throws ".length());
            return "try { " + call + "; ReadmeTest.due(\"" + call + " throws\", 0, 1); } catch (java.util." + thrown
                + " e) { ReadmeTest.due(\"" + call + "\", 1, 1); }\n";
        }
        boolean isWord = answer.equals("true") || answer.equals("false");
        return "ReadmeTest.due(\"" + call + "\", " + (isWord ? call + " ? 1 : 0" : call) + ", "
            + (isWord ? answer + " ? 1 : 0" : answer + "L") + ");\n";
    }

    // What follows is public for ReadmeRun: another loader has it, and with that another package.

    public static void due(String call, long got, long want) {
        calls++;
        Checks.due("README.md, " + call, got, want);
    }

    public static void counted(int answer) {
        calls++;
        Checks.due("README.md, sign", answer > 0, true);
    }

    public static void rowIs(String call, EnginesOut x, String want) {
        int size = x.count(13);
        StringBuilder row = new StringBuilder();
        for (int i = 0; i < size; i++) {
            row.append(i == 0 ? "" : ", ").append(x.row(i));
        }
        calls += 1 + size;
        Checks.due("README.md, " + call + ": the ROW is " + row + ", written is " + want, row.toString().equals(want), true);
    }

    private static void run(String program) throws Exception {
        Path folder = Files.createTempDirectory("readme");
        Path source = folder.resolve("ReadmeRun.java");
        Path made = folder.resolve("ReadmeRun.class");
        try {
            Files.writeString(source, program);
            int failed = ToolProvider.getSystemJavaCompiler().run(null, null, null, "-cp", System.getProperty("java.class.path"),
                "-d", folder.toString(), source.toString());
            Checks.due("the page's calls compile", failed, 0);
            if (failed == 0) {
                try (URLClassLoader loader = new URLClassLoader(new URL[] {folder.toUri().toURL()})) {
                    loader.loadClass("ReadmeRun").getMethod("run").invoke(null);
                }
            }
        } finally {
            Files.deleteIfExists(made);
            Files.deleteIfExists(source);
            Files.deleteIfExists(folder);
        }
    }

    private static void faceIsThere(String code) {
        for (Method m : EnginesOut.class.getDeclaredMethods()) {
            if (Modifier.isPublic(m.getModifiers())) {
                Checks.due("the page has a call of " + m.getName(), code.contains("x." + m.getName() + "("), true);
            }
        }
    }

    private static void testsAreNamed(String page) throws IOException {
        Set<String> named = new TreeSet<>();
        Matcher m = Pattern.compile("(?m)^\\| (\\w+Test) \\|").matcher(page);
        while (m.find()) {
            named.add(m.group(1));
        }
        Set<String> there = new TreeSet<>();
        try (DirectoryStream<Path> files = Files.newDirectoryStream(Path.of("src/test/java"), "*Test.java")) {
            for (Path file : files) {
                there.add(file.getFileName().toString().replace(".java", ""));
            }
        }
        Checks.due("tests named " + named + ", there " + there, named.equals(there), true);
    }

    private static void filesAreThere(String page) throws IOException {
        Matcher m = Pattern.compile("(?<![\\w/.])((?:src|\\.ci|\\.\\./shared)/[\\w./*]*\\w)").matcher(page);
        int many = 0;
        while (m.find()) {
            many++;
            Path file = Path.of(m.group(1));
            Checks.due("it is there: " + file, isThere(file), true);
        }
        Checks.due("files were looked for", many > 5, true);
        Checks.due(".ci/run can be run", Files.isExecutable(Path.of(".ci/run")), true);
    }

    private static boolean isThere(Path file) throws IOException {
        Path folder = file.getParent();
        if (folder == null || !Files.isDirectory(folder)) {
            return false;
        }
        try (DirectoryStream<Path> files = Files.newDirectoryStream(folder, file.getFileName().toString())) {
            return files.iterator().hasNext();
        }
    }
}
