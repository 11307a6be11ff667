import java.io.IOException;
import java.lang.reflect.Method;
import java.lang.reflect.Modifier;
import java.nio.file.Files;
import java.nio.file.Path;
import java.util.List;
import java.util.Set;
import java.util.TreeSet;
import java.util.regex.Matcher;
import java.util.regex.Pattern;
import java.util.stream.Stream;

/** README.md as it stands: each call in it answers what is written behind it; no call and no test is left out. */
public final class ReadmeTest {
    private static final Path README = Path.of("README.md");
    private static final Path TESTS = Path.of("src/test/java");
    private static final String NEW = "RiverGauge x = new RiverGauge();";
    private static final Pattern CALL = Pattern.compile("x\\.(\\w+)\\(([^)]*)\\); +// (-?\\d+)(:.*)?");
    private static int wrong = 0;

    public static void main(String[] args) throws IOException {
        Set<String> called = play(Files.readAllLines(README));
        for (Method method : RiverGauge.class.getDeclaredMethods()) {
            boolean hidden = Modifier.isPrivate(method.getModifiers());
            check(hidden || called.contains(method.getName()), "README.md does not use " + method.getName());
        }
        String readme = Files.readString(README);
        try (Stream<Path> tests = Files.list(TESTS)) {
            for (Path test : tests.toList()) {
                String name = test.getFileName().toString().replace(".java", "");
                boolean tells = readme.contains("`" + name + "`") || readme.contains("`" + name + " [");
                check(tells, "README.md does not tell of " + name);
            }
        }
        System.out.println(wrong == 0 ? "README.md is as due" : wrong + " places of README.md are not as due");
        if (wrong != 0) System.exit(1);
    }

    private static void check(boolean good, String what) {
        if (good) return;
        wrong++;
        System.out.println(what);
    }

    /** Plays the calls of all rows of code, on one object, and tells which there were. */
    private static Set<String> play(List<String> lines) {
        Set<String> called = new TreeSet<>();
        RiverGauge x = null;
        boolean code = false;
        for (String line : lines) {
            if (line.startsWith("```")) {
                code = line.equals("```java");
                continue;
            }
            if (!code || line.isBlank()) continue;
            Matcher call = CALL.matcher(line);
            if (line.equals(NEW)) {
                x = new RiverGauge();
            } else if (x == null || !call.matches()) {
                check(false, "not understood: " + line);
            } else {
                called.add(call.group(1));
                int got = Gauge.answer(x, call.group(1), numbers(call.group(2)));
                check(got == Integer.parseInt(call.group(3)), line + " answered " + got);
            }
        }
        return called;
    }

    private static long[] numbers(String arguments) {
        if (arguments.isBlank()) return new long[0];
        return Stream.of(arguments.split(", ")).mapToLong(one -> Long.decode(one.replace("L", ""))).toArray();
    }
}
