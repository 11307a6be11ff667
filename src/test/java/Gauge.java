import java.lang.reflect.Method;
import java.lang.reflect.Modifier;
import java.util.Arrays;
import java.util.List;

/** A RiverGauge whose calls are told by name, so that each answer that is not as due names its call. */
final class Gauge {
    private static final List<String> FAR = List.of("zeroAt", "heightAt", "low", "point", "shift", "beside", "gap",
        "next");
    private static int wrong = 0;
    private final RiverGauge real = new RiverGauge();
    private final String title;

    Gauge(String title) {
        this.title = title;
    }

    static void end() {
        System.out.println(wrong == 0 ? "all answers are as due" : wrong + " answers are not as due");
        if (wrong != 0) System.exit(1);
    }

    /** The answer of any object that has the document's face. */
    static int answer(Object on, String name, long... a) {
        try {
            for (Method method : on.getClass().getDeclaredMethods()) {
                if (!method.getName().equals(name) || Modifier.isPrivate(method.getModifiers())) continue;
                Object[] arguments = new Object[a.length];
                for (int i = 0; i < a.length; i++) {
                    boolean isLong = method.getParameterTypes()[i] == long.class;
                    arguments[i] = isLong ? (Object) a[i] : (Object) (int) a[i];
                }
                return (Integer) method.invoke(on, arguments);
            }
            throw new IllegalStateException("no method " + name);
        } catch (ReflectiveOperationException e) {
            throw new IllegalStateException(told(name, a), e);
        }
    }

    static String told(String name, long... a) {
        String all = Arrays.toString(a);
        return name + "(" + all.substring(1, all.length() - 1) + ")";
    }

    int call(String name, long... a) {
        return answer(real, name, a);
    }

    Gauge due(long want, String name, long... a) {
        int got = call(name, a);
        if (got != want) tell(told(name, a) + " answered " + got + ", due is " + want);
        return this;
    }

    /** Refused with this number; and nothing is otherwise but how many such REFUSALS there were. */
    Gauge refused(int code, String name, long... a) {
        int[] seen = look();
        int[] counts = counts();
        due(FAR.contains(name) ? 1000000000 - code : code, name, a);
        counts[10 - code]++;
        if (!Arrays.equals(counts, counts())) tell(told(name, a) + " changed what is counted");
        if (!Arrays.equals(seen, look())) tell(told(name, a) + " was refused, but changed something");
        return this;
    }

    /** THE TAPE gets this text. */
    Gauge feed(String text) {
        for (int i = 0; i < text.length(); i += 8) {
            int n = Math.min(8, text.length() - i);
            long bytes = 0;
            for (int j = n - 1; j >= 0; j--) bytes = bytes << 8 | text.charAt(i + j);
            due(call("count", 9) + n, "feed", n, bytes);
        }
        return this;
    }

    Gauge standard(String text, int purpose, int day) {
        return feed(text).due(call("count", 6), "standard", purpose, day);
    }

    private void tell(String what) {
        wrong++;
        System.out.println(title + ": " + what);
    }

    private int[] counts() {
        int[] counts = new int[17];
        for (int i = 0; i < counts.length; i++) counts[i] = call("count", i);
        return counts;
    }

    // What calls that change nothing answer now; LOW, LIMIT and NEIGHBOURS are put back.
    private int[] look() {
        int now = call("count", 0);
        int[] seen = new int[5000];
        int at = 0;
        for (int post = 0; post < call("count", 1); post++) {
            for (int time = 0; time < 40; time++) {
                seen[at++] = call("zeroAt", post, time, now);
                seen[at++] = call("heightAt", post, time, now);
                seen[at++] = call("flowOf", post, time, now, 0);
                seen[at++] = call("gap", post, time, 0);
                seen[at++] = call("points", post, time, now);
            }
            for (int what = 0; what < 4; what++) seen[at++] = call("breaks", post, what);
            for (int run = 0; run < 3; run++) seen[at++] = call("shift", post, run);
            int low = call("low", post, 0);
            call("low", post, low);
            int beside = call("beside", post, -1);
            call("beside", post, beside);
            seen[at++] = low;
            seen[at++] = beside;
        }
        for (int i = 0; i < call("count", 3); i++) seen[at++] = call("isStruck", i, now);
        for (int i = 0; i < call("count", 5); i++) seen[at++] = call("counts", i, now);
        for (int i = 0; i < 4 * call("count", 7); i++) seen[at++] = call("published", i / 4, i % 4);
        int limit = call("limit", 0);
        call("limit", limit);
        seen[at++] = limit;
        return seen;
    }
}
