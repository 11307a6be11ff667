import java.io.ByteArrayOutputStream;
import java.io.IOException;
import java.io.OutputStream;
import java.io.PrintStream;
import java.lang.reflect.Method;
import java.net.URI;
import java.nio.file.Files;
import java.nio.file.Path;
import java.util.ArrayList;
import java.util.Arrays;
import java.util.HashMap;
import java.util.List;
import java.util.Map;
import java.util.concurrent.ExecutorService;
import java.util.concurrent.Executors;
import java.util.concurrent.Future;
import java.util.regex.Matcher;
import java.util.regex.Pattern;
import javax.tools.Diagnostic;
import javax.tools.DiagnosticCollector;
import javax.tools.ForwardingJavaFileManager;
import javax.tools.JavaCompiler;
import javax.tools.JavaFileManager;
import javax.tools.JavaFileObject;
import javax.tools.SimpleJavaFileObject;
import javax.tools.StandardJavaFileManager;
import javax.tools.ToolProvider;

/**
 * Breaks the class in one small place at a time and tells which breaks no test sees. Not a part of .ci/run: it takes
 * minutes. java -Djava.security.manager=allow src/mutants/Mutants.java [first line [last line]]
 */
public final class Mutants {
    private static final Path SOURCE = Path.of("src/main/java/RiverGauge.java");
    private static final Path BUILD = Path.of("build/mutants");
    private static final JavaCompiler COMPILER = ToolProvider.getSystemJavaCompiler();
    private static final long PATIENCE = 60000;
    private static final PrintStream TOLD = System.out;
    // Each row: what is sought, and what it becomes.
    private static final String[][] BREAKS = {
        {" < ", " <= "}, {" <= ", " < "}, {" > ", " >= "}, {" >= ", " > "}, {" == ", " != "}, {" != ", " == "},
        {" < ", " >= "}, {" > ", " <= "}, {" && ", " || "}, {" || ", " && "}, {" + ", " - "}, {" - ", " + "},
        {" * ", " + "}, {" / ", " * "}, {" % ", " / "}, {" += ", " -= "}, {"true", "false"}, {"false", "true"},
        {"Math.max(", "Math.min("}, {"Math.min(", "Math.max("}, {"Math.abs(", "("}, {"(!", "("}, {"&& !", "&& "},
        {"|| !", "|| "}, {" |= ", " = "}, {" &= ", " = "}, {"++;", ";"}, {"--;", ";"}, {"continue;", ";"},
        {"Math.floorDiv(lower + upper, 2)", "((lower + upper) / 2)"}, {" = -", " = "}, {"(int) ", "(byte) "}};

    private record Mutant(int line, String was, String now, String source) { }

    @SuppressWarnings("removal")
    public static void main(String[] args) throws Exception {
        int first = args.length > 0 ? Integer.parseInt(args[0]) : 1;
        int last = args.length > 1 ? Integer.parseInt(args[1]) : Integer.MAX_VALUE;
        List<String> tests = compileTests();
        System.setSecurityManager(new NoExit());
        System.setOut(new PrintStream(OutputStream.nullOutputStream()));
        System.setErr(new PrintStream(OutputStream.nullOutputStream()));
        ExecutorService workers = Executors.newFixedThreadPool(Runtime.getRuntime().availableProcessors());
        List<Mutant> all = mutants(first, last);
        List<Future<String>> ends = new ArrayList<>();
        for (Mutant one : all) ends.add(workers.submit(() -> end(one, tests)));
        Map<String, Integer> many = new HashMap<>();
        for (int i = 0; i < all.size(); i++) {
            String end = ends.get(i).get();
            many.merge(end, 1, Integer::sum);
            Mutant one = all.get(i);
            if (end.equals("lives")) TOLD.println(one.line + ": " + one.was.trim() + "\n    -> " + one.now.trim());
        }
        TOLD.println(many);
        Runtime.getRuntime().halt(0);
    }

    private static List<String> compileTests() throws IOException {
        List<Path> files = new ArrayList<>();
        List<String> tests = new ArrayList<>();
        for (Path place : List.of(Path.of("src/test/java"), Path.of("../shared/tests"))) {
            try (var found = Files.list(place)) {
                for (Path file : found.sorted().toList()) {
                    String name = file.getFileName().toString().replace(".java", "");
                    files.add(file);
                    boolean isSlow = name.equals("RandomRunsTest") || name.equals("RoomTest") || name.equals("LanguageTest");
                    if (!isSlow && (name.endsWith("Test") || place.endsWith("tests"))) tests.add(name);
                }
            }
        }
        files.add(SOURCE);
        Files.createDirectories(BUILD);
        StandardJavaFileManager files1 = COMPILER.getStandardFileManager(null, null, null);
        COMPILER.getTask(null, files1, null, List.of("-d", BUILD.toString()), null,
            files1.getJavaFileObjectsFromPaths(files)).call();
        return tests;
    }

    private static List<Mutant> mutants(int first, int last) throws IOException {
        String[] lines = Files.readString(SOURCE).split("\n");
        List<Mutant> all = new ArrayList<>();
        for (int i = first - 1; i < Math.min(last, lines.length); i++) {
            String line = lines[i];
            String plain = line.trim();
            if (plain.startsWith("//") || plain.startsWith("/*") || plain.startsWith("*")) continue;
            for (String[] rule : BREAKS) {
                for (int at = line.indexOf(rule[0]); at >= 0; at = line.indexOf(rule[0], at + 1)) {
                    add(all, lines, i, line.substring(0, at) + rule[1] + line.substring(at + rule[0].length()));
                }
            }
            Matcher number = Pattern.compile("(?<![\\w\"'])\\d+\\b").matcher(line);
            while (number.find()) {
                long value = Long.parseLong(number.group());
                for (long other : new long[] {value - 1, value + 1}) {
                    if (other == 2147483648L) continue;
                    add(all, lines, i, line.substring(0, number.start()) + other + line.substring(number.end()));
                }
            }
            boolean isCall = plain.endsWith(";") && !plain.startsWith("return") && !plain.contains(" int ")
                && (plain.matches("[\\w.\\[\\] ]+ = .*") || plain.matches("[\\w.]+\\(.*\\);"));
            if (isCall && !plain.matches("(private|final|int|long|boolean|static) .*")) add(all, lines, i, ";");
            if (plain.matches("if \\(.*\\) (return|continue|break).*;")) add(all, lines, i, ";");
        }
        return all;
    }

    private static void add(List<Mutant> all, String[] lines, int i, String now) {
        String[] broken = lines.clone();
        broken[i] = now;
        all.add(new Mutant(i + 1, lines[i], now, String.join("\n", broken)));
    }

    private static String end(Mutant one, List<String> tests) throws Exception {
        Map<String, byte[]> classes = compile(one.source);
        if (classes == null) return "is no Java";
        for (String test : tests) {
            if (fails(test, classes)) return "dies";
        }
        return "lives";
    }

    private static Map<String, byte[]> compile(String source) {
        Map<String, ByteArrayOutputStream> made = new HashMap<>();
        JavaFileObject file = new SimpleJavaFileObject(URI.create("string:///RiverGauge.java"), JavaFileObject.Kind.SOURCE) {
            @Override
            public CharSequence getCharContent(boolean ignore) {
                return source;
            }
        };
        DiagnosticCollector<JavaFileObject> told = new DiagnosticCollector<>();
        JavaFileManager files = new ForwardingJavaFileManager<>(COMPILER.getStandardFileManager(told, null, null)) {
            @Override
            public JavaFileObject getJavaFileForOutput(Location l, String name, JavaFileObject.Kind kind,
                    javax.tools.FileObject sibling) {
                return new SimpleJavaFileObject(URI.create("mem:///" + name + ".class"), kind) {
                    @Override
                    public OutputStream openOutputStream() {
                        ByteArrayOutputStream out = new ByteArrayOutputStream();
                        made.put(name, out);
                        return out;
                    }
                };
            }
        };
        if (!COMPILER.getTask(null, files, told, List.of(), null, List.of(file)).call()) return null;
        Map<String, byte[]> classes = new HashMap<>();
        for (Map.Entry<String, ByteArrayOutputStream> one : made.entrySet()) {
            classes.put(one.getKey(), one.getValue().toByteArray());
        }
        return classes;
    }

    @SuppressWarnings({"deprecation", "removal"})
    private static boolean fails(String test, Map<String, byte[]> classes) throws Exception {
        boolean[] good = new boolean[1];
        Thread thread = new Thread(() -> {
            try {
                Method main = new Loader(classes).loadClass(test).getMethod("main", String[].class);
                main.setAccessible(true);
                main.invoke(null, (Object) new String[0]);
                good[0] = true;
            } catch (Throwable e) {
                good[0] = false;
            }
        });
        thread.start();
        thread.join(PATIENCE);
        if (thread.isAlive()) {
            thread.stop();
            return true;
        }
        return !good[0];
    }

    /** Takes the class from what was compiled, and the tests from where they lie, each anew. */
    private static final class Loader extends ClassLoader {
        private final Map<String, byte[]> classes;

        Loader(Map<String, byte[]> classes) {
            super(ClassLoader.getPlatformClassLoader());
            this.classes = classes;
        }

        @Override
        protected Class<?> findClass(String name) throws ClassNotFoundException {
            byte[] bytes = classes.get(name);
            try {
                if (bytes == null) bytes = Files.readAllBytes(BUILD.resolve(name + ".class"));
            } catch (IOException e) {
                throw new ClassNotFoundException(name, e);
            }
            return defineClass(name, bytes, 0, bytes.length);
        }
    }

    @SuppressWarnings("removal")
    private static final class NoExit extends SecurityManager {
        @Override
        public void checkExit(int status) {
            if (status != 0) throw new SecurityException("exit");
        }

        @Override
        public void checkPermission(java.security.Permission p) {
        }
    }
}
