import com.sun.source.tree.CompilationUnitTree;
import com.sun.source.tree.MethodInvocationTree;
import com.sun.source.tree.MethodTree;
import com.sun.source.tree.NewArrayTree;
import com.sun.source.tree.NewClassTree;
import com.sun.source.util.JavacTask;
import com.sun.source.util.TreePath;
import com.sun.source.util.TreePathScanner;
import com.sun.source.util.Trees;
import java.io.IOException;
import java.lang.reflect.Constructor;
import java.lang.reflect.Field;
import java.lang.reflect.Method;
import java.lang.reflect.Modifier;
import java.nio.charset.StandardCharsets;
import java.nio.file.Files;
import java.nio.file.Path;
import java.util.Arrays;
import java.util.List;
import java.util.Map;
import java.util.Set;
import java.util.TreeMap;
import java.util.TreeSet;
import java.util.regex.Matcher;
import java.util.regex.Pattern;
import javax.lang.model.element.Element;
import javax.tools.JavaCompiler;
import javax.tools.StandardJavaFileManager;
import javax.tools.ToolProvider;

/** The face is the document's, and the file keeps to those rules of LANGUAGE.md that a plain look can tell. */
public final class LanguageTest {
    private static final Path SOURCE = Path.of("src/main/java/RiverGauge.java");
    private static final String[] FACE = {"go int", "post int", "moved int int int", "zeroAt int int int",
        "height int int int int", "strike int", "isStruck int int", "heightAt int int int", "measure int int int int",
        "drop int", "counts int int", "feed int long", "standard int int", "low int int", "stretch int int",
        "points int int int", "point int int int int int", "flowAt int int int", "under int int int int int",
        "flowOf int int int int", "base int int int int", "breaks int int", "shift int int", "put int", "judge int",
        "beside int int", "gap int int int", "peak int int int int", "often int int", "agree int int int int int",
        "next int", "publish int int", "published int int", "mend", "limit int", "count int"};
    private static final String[] FORBIDDEN = {"\\bthrow\\b", "\\btry\\b", "\\bcatch\\b", "\\bsynchronized\\b",
        "\\bassert\\b", "->", "::", "\\bimport\\b", "\\bpackage\\b", "Exact\\b", "\\bdouble\\b", "\\bfloat\\b",
        "\\bvar\\b", "\\bObject\\b", "\\bMath\\.(random|sqrt|pow)\\b", "System\\.(?!arraycopy\\b)", "\\bstatic\\s*\\{",
        "\\bprotected\\b", "[^\\x00-\\x7f]"};
    // What rule 4 lets, as far as the class uses it.
    private static final Set<String> LIBRARY = Set.of("Integer.bitCount", "Math.abs", "Math.floorDiv", "Math.max",
        "Math.min", "String.indexOf", "System.arraycopy", "Object.<init>");
    private static int wrong = 0;

    public static void main(String[] args) throws IOException {
        face();
        insides();
        String source = Files.readString(SOURCE, StandardCharsets.ISO_8859_1);
        words(source);
        methods(source);
        calls();
        System.out.println(wrong == 0 ? "the language is as due" : wrong + " rules are broken");
        if (wrong != 0) System.exit(1);
    }

    private static void check(boolean good, String what) {
        if (good) return;
        wrong++;
        System.out.println(what);
    }

    private static void face() {
        Class<?> face = RiverGauge.class;
        check(Modifier.isPublic(face.getModifiers()) && Modifier.isFinal(face.getModifiers()), "the class is not public and final");
        Constructor<?>[] made = face.getDeclaredConstructors();
        check(made.length == 1 && made[0].getParameterCount() == 0 && Modifier.isPublic(made[0].getModifiers()), "the constructor");
        Set<String> found = new TreeSet<>();
        Set<String> hidden = new TreeSet<>();
        for (Method method : face.getDeclaredMethods()) {
            if (Modifier.isPrivate(method.getModifiers())) {
                hidden.add(method.getName());
                continue;
            }
            StringBuilder told = new StringBuilder(method.getName());
            for (Class<?> type : method.getParameterTypes()) told.append(' ').append(type.getName());
            found.add(told.toString());
            check(Modifier.isPublic(method.getModifiers()) && method.getReturnType() == int.class, told + " is not as due");
        }
        check(found.equals(new TreeSet<>(Arrays.asList(FACE))), "the face is " + found);
        for (String told : FACE) check(!hidden.contains(told.split(" ")[0]), "a private method is named " + told);
        for (Field field : face.getDeclaredFields()) check(Modifier.isPrivate(field.getModifiers()), "rule 1: " + field);
    }

    private static void insides() {
        Class<?>[] inside = RiverGauge.class.getDeclaredClasses();
        check(inside.length <= 11, "rule 11: twelve classes at most");
        for (Class<?> one : inside) {
            check(Modifier.isStatic(one.getModifiers()), "rule 2: " + one);
            int own = 0;
            for (Field field : one.getDeclaredFields()) {
                if (!Modifier.isStatic(field.getModifiers())) own++;
                else check(Modifier.isFinal(field.getModifiers()), "rule 5: " + field);
            }
            check(own <= 20, "rule 11: fields of " + one);
            for (Method method : one.getDeclaredMethods()) {
                check(method.getParameterCount() <= 7, "rule 11: " + method);
                for (String told : FACE) check(!method.getName().equals(told.split(" ")[0]), "rule 1: " + method);
            }
        }
    }

    private static void words(String source) {
        String code = source.replaceAll("(?s)/\\*.*?\\*/", "").replaceAll("//[^\n]*", "");
        for (String word : FORBIDDEN) {
            Matcher found = Pattern.compile(word).matcher(code);
            if (found.find()) check(false, "not in the language: " + found.group());
        }
    }

    private static void methods(String source) {
        String[] lines = source.split("\n");
        int from = -1;
        for (int i = 0; i < lines.length; i++) {
            boolean opens = lines[i].matches("( {4}| {8})[\\w\\[\\] ]+\\(.*\\) \\{");
            if (opens) from = i;
            if (from >= 0 && lines[i].matches("( {4}| {8})}")) {
                check(i - from < 60, "rule 11: long from line " + (from + 1));
                from = -1;
            }
            check(lines[i].length() <= 130, "a long line: " + (i + 1));
        }
    }

    /** Which method calls which, as the compiler sees it: how deep they go, what of the library, what they make. */
    private static void calls() throws IOException {
        JavaCompiler compiler = ToolProvider.getSystemJavaCompiler();
        Map<String, Set<String>> calls = new TreeMap<>();
        try (StandardJavaFileManager files = compiler.getStandardFileManager(null, null, null)) {
            JavacTask task = (JavacTask) compiler.getTask(null, files, null, List.of("-proc:none"), null,
                files.getJavaFileObjects(SOURCE));
            Iterable<? extends CompilationUnitTree> units = task.parse();
            task.analyze();
            for (CompilationUnitTree unit : units) new Calls(Trees.instance(task), calls).scan(unit, null);
        }
        check(calls.size() > FACE.length, "no calls were found");
        for (Set<String> called : calls.values()) {
            for (String name : called) check(calls.containsKey(name) || LIBRARY.contains(name), "rule 4: " + name);
        }
        for (String told : FACE) {
            String name = "RiverGauge." + told.split(" ")[0];
            int deep = deep(name, calls, new TreeSet<>());
            check(deep <= 8, "rule 11: " + name + " goes " + deep + " deep");
        }
    }

    // A method that is open already is recursion, and is not gone into again.
    private static int deep(String name, Map<String, Set<String>> calls, Set<String> open) {
        if (!calls.containsKey(name) || !open.add(name)) return 0;
        int most = 0;
        for (String called : calls.get(name)) most = Math.max(most, deep(called, calls, open));
        open.remove(name);
        return most + 1;
    }

    /** Gathers the calls of each method; only constructors may make something. */
    private static final class Calls extends TreePathScanner<Void, String> {
        private final Trees trees;
        private final Map<String, Set<String>> calls;

        Calls(Trees trees, Map<String, Set<String>> calls) {
            this.trees = trees;
            this.calls = calls;
        }

        private static String nameOf(Element method) {
            return method.getEnclosingElement().getSimpleName() + "." + method.getSimpleName();
        }

        @Override public Void visitMethod(MethodTree method, String in) {
            String name = nameOf(trees.getElement(getCurrentPath()));
            calls.putIfAbsent(name, new TreeSet<>());
            return super.visitMethod(method, name);
        }

        @Override public Void visitMethodInvocation(MethodInvocationTree call, String in) {
            Element called = trees.getElement(new TreePath(getCurrentPath(), call.getMethodSelect()));
            if (in != null) calls.get(in).add(nameOf(called));
            return super.visitMethodInvocation(call, in);
        }

        @Override public Void visitNewClass(NewClassTree made, String in) {
            check(in == null || in.endsWith("<init>"), "an object is made in " + in);
            return super.visitNewClass(made, in);
        }

        @Override public Void visitNewArray(NewArrayTree made, String in) {
            check(in == null || in.endsWith("<init>"), "an array is made in " + in);
            return super.visitNewArray(made, in);
        }
    }
}
