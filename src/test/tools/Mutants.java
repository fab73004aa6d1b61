import java.io.ByteArrayOutputStream;
import java.io.IOException;
import java.io.OutputStream;
import java.io.PrintStream;
import java.io.Writer;
import java.lang.reflect.InvocationTargetException;
import java.lang.reflect.Method;
import java.net.URI;
import java.nio.file.Files;
import java.nio.file.Path;
import java.util.ArrayList;
import java.util.Collections;
import java.util.List;
import java.util.Map;
import java.util.Set;
import java.util.TreeMap;
import java.util.TreeSet;
import java.util.concurrent.ExecutorService;
import java.util.concurrent.Executors;
import java.util.concurrent.TimeUnit;
import java.util.concurrent.atomic.AtomicInteger;
import java.util.regex.Matcher;
import java.util.regex.Pattern;
import javax.tools.FileObject;
import javax.tools.ForwardingJavaFileManager;
import javax.tools.JavaCompiler;
import javax.tools.JavaFileManager;
import javax.tools.JavaFileObject;
import javax.tools.SimpleJavaFileObject;
import javax.tools.StandardJavaFileManager;
import javax.tools.ToolProvider;

/**
 * Breaks EnginesOut in one place at a time and tells which breaks EdgesTest does not see, and which sentences
 * of the document no break ever broke. No part of .ci/run: what is left over must be looked at by hand, as a
 * break may change nothing that can be asked.
 *
 * <p>Argument: the folder of the compiled tests. Run it in the project's folder.
 */
public final class Mutants {
    private static final String SOURCE = "src/main/java/EnginesOut.java";
    private static final long MOST_SECONDS = 20;
    private static final String[][] SWAPS = {
        {"<=", "<"}, {">=", ">"}, {"==", "!="}, {"!=", "=="}, {"&&", "||"}, {"||", "&&"}, {"true", "false"}, {"false", "true"},
        {"Math.max", "Math.min"}, {"Math.min", "Math.max"}};
    private static final JavaCompiler COMPILER = ToolProvider.getSystemJavaCompiler();

    private static final Set<String> UNBROKEN = Collections.synchronizedSet(new TreeSet<>());
    private static final Set<String> BROKEN = Collections.synchronizedSet(new TreeSet<>());

    private record Mutant(int line, String was, String is, String source) {
    }

    public static void main(String[] args) throws Exception {
        Path tests = Path.of(args[0]);
        List<Mutant> mutants = mutants(Files.readString(Path.of(SOURCE)));
        PrintStream out = System.out;
        System.setOut(new PrintStream(OutputStream.nullOutputStream()));
        AtomicInteger seen = new AtomicInteger();
        AtomicInteger invalid = new AtomicInteger();
        List<String> left = new ArrayList<>();
        ExecutorService pool = Executors.newFixedThreadPool(8);
        for (Mutant m : mutants) {
            pool.submit(() -> {
                Map<String, byte[]> classes = compile(m.source());
                if (classes.isEmpty()) {
                    invalid.incrementAndGet();
                } else if (isSeen(classes, tests)) {
                    seen.incrementAndGet();
                } else {
                    synchronized (left) {
                        left.add(String.format("%5d  %s  ->  %s", m.line(), m.was(), m.is()));
                    }
                }
            });
        }
        pool.shutdown();
        pool.awaitTermination(3, TimeUnit.HOURS);
        left.sort(null);
        left.forEach(out::println);
        UNBROKEN.removeAll(BROKEN);
        UNBROKEN.forEach(sentence -> out.println("never broken: " + sentence));
        out.println(mutants.size() + " breaks, " + invalid + " do not compile, " + seen + " seen, " + left.size() + " not seen");
        System.exit(0);
    }

    private static List<Mutant> mutants(String source) {
        List<Mutant> all = new ArrayList<>();
        String[] lines = source.split("\n");
        for (int i = 0; i < lines.length; i++) {
            String line = lines[i];
            if (line.trim().startsWith("//") || line.trim().startsWith("*") || line.trim().startsWith("/*") || line.startsWith("import")) {
                continue;
            }
            for (String broken : breaks(line)) {
                String[] changed = lines.clone();
                changed[i] = broken;
                all.add(new Mutant(i + 1, line.trim(), broken.trim(), String.join("\n", changed)));
            }
        }
        return all;
    }

    private static List<String> breaks(String line) {
        List<String> all = new ArrayList<>();
        for (String[] swap : SWAPS) {
            replaced(all, line, Pattern.quote(swap[0]), swap[1]);
        }
        replaced(all, line, "(?<= )<(?= )", "<=");
        replaced(all, line, "(?<= )>(?= )", ">=");
        replaced(all, line, "(?<= )\\+(?= )", "-");
        replaced(all, line, "(?<= )-(?= )", "+");
        replaced(all, line, "(?<= )&(?= )", "|");
        replaced(all, line, "\\+\\+", "");
        Matcher m = Pattern.compile("(?<![\\w.])\\d+(?!\\w)").matcher(line);
        while (m.find()) {
            int number = Integer.parseInt(m.group());
            for (int other : new int[] {number - 1, number + 1}) {
                all.add(line.substring(0, m.start()) + other + line.substring(m.end()));
            }
        }
        if (line.trim().matches("[\\w.\\[\\]]+(\\(.*\\)| [-+|]?= .*|\\+\\+|--);")) {
            all.add("");
        }
        if (line.trim().matches("(if|while) \\(.*\\) \\{")) {
            all.add(line.replaceFirst("\\(", "(!(").replaceFirst("\\) \\{$", ")) {"));
        }
        return all;
    }

    private static void replaced(List<String> all, String line, String pattern, String by) {
        Matcher m = Pattern.compile(pattern).matcher(line);
        while (m.find()) {
            all.add(line.substring(0, m.start()) + by + line.substring(m.end()));
        }
    }

    private static final class Output extends ForwardingJavaFileManager<StandardJavaFileManager> {
        final Map<String, ByteArrayOutputStream> made = new TreeMap<>();

        Output(StandardJavaFileManager manager) {
            super(manager);
        }

        @Override
        public JavaFileObject getJavaFileForOutput(JavaFileManager.Location where, String name, JavaFileObject.Kind kind,
                FileObject sibling) {
            return new SimpleJavaFileObject(URI.create("mem:///" + name.replace('$', '_') + ".class"), kind) {
                @Override
                public OutputStream openOutputStream() {
                    ByteArrayOutputStream bytes = new ByteArrayOutputStream();
                    made.put(name, bytes);
                    return bytes;
                }
            };
        }
    }

    private static Map<String, byte[]> compile(String source) {
        Output output = new Output(COMPILER.getStandardFileManager(null, null, null));
        JavaFileObject file = new SimpleJavaFileObject(URI.create("string:///EnginesOut.java"), JavaFileObject.Kind.SOURCE) {
            @Override
            public CharSequence getCharContent(boolean ignore) {
                return source;
            }
        };
        boolean isRight = COMPILER.getTask(Writer.nullWriter(), output, d -> { }, null, null, List.of(file)).call();
        Map<String, byte[]> classes = new TreeMap<>();
        if (isRight) {
            output.made.forEach((name, bytes) -> classes.put(name, bytes.toByteArray()));
        }
        return classes;
    }

    /** Its own tests for each break, so that what they count begins at 0. */
    private static final class Loader extends ClassLoader {
        private final Map<String, byte[]> classes;
        private final Path tests;

        Loader(Map<String, byte[]> classes, Path tests) {
            super(ClassLoader.getPlatformClassLoader());
            this.classes = classes;
            this.tests = tests;
        }

        @Override
        protected Class<?> findClass(String name) throws ClassNotFoundException {
            try {
                byte[] bytes = name.startsWith("EnginesOut") ? classes.get(name) : Files.readAllBytes(tests.resolve(name + ".class"));
                return defineClass(name, bytes, 0, bytes.length);
            } catch (IOException e) {
                throw new ClassNotFoundException(name);
            }
        }
    }

    @SuppressWarnings({"deprecation", "removal"})
    private static boolean isSeen(Map<String, byte[]> classes, Path tests) {
        boolean[] isRight = {false};
        Thread thread = new Thread(() -> isRight[0] = isRight(new Loader(classes, tests)));
        thread.setDaemon(true);
        thread.start();
        try {
            thread.join(1000 * MOST_SECONDS);
        } catch (InterruptedException e) {
            return true;
        }
        if (thread.isAlive()) {
            thread.stop();
            return true;
        }
        return !isRight[0];
    }

    private static boolean isRight(Loader loader) {
        try {
            method(loader, "EdgesTest", "run").invoke(null);
            for (Object sentence : (Set<?>) method(loader, "Edge", "sentences").invoke(null)) {
                UNBROKEN.add((String) sentence);
            }
            for (Object sentence : (Set<?>) method(loader, "Edge", "broken").invoke(null)) {
                BROKEN.add((String) sentence);
            }
            return (boolean) method(loader, "Checks", "isRight").invoke(null);
        } catch (InvocationTargetException e) {
            return false;
        } catch (ReflectiveOperationException e) {
            throw new IllegalStateException(e);
        }
    }

    private static Method method(Loader loader, String of, String name) throws ReflectiveOperationException {
        Method method = loader.loadClass(of).getDeclaredMethod(name);
        method.setAccessible(true);
        return method;
    }
}
