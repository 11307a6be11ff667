import java.lang.reflect.Method;
import java.lang.reflect.Modifier;
import java.util.ArrayList;
import java.util.Arrays;
import java.util.HashMap;
import java.util.List;
import java.util.Map;
import java.util.TreeSet;

/**
 * A RiverGauge whose calls are told by name, so that each answer that is not as due names its call. No object gets
 * more than 512 calls: whether a refused call changed something is asked of twins that are made for the question.
 */
final class Gauge {
    private static final int CALLS = 512;
    private static final List<String> FAR = List.of("zeroAt", "heightAt", "low", "point", "shift", "beside", "gap",
        "next");
    // Calls that tell of a TIME, with the place where it stands: twins are asked about these TIMES.
    private static final Map<String, Integer> TIMED = Map.of("height", 1, "measure", 1, "moved", 2, "stretch", 1,
        "under", 2, "publish", 1);
    private static final int TIMES_ASKED = 12;
    private static final int NUMBERS_ASKED = 12;
    private static final Map<Class<?>, Map<String, Method>> FACES = new HashMap<>();
    private static int wrong = 0;

    private record Call(String name, long[] a) { }

    private final RiverGauge real = new RiverGauge();
    private final List<Call> calls = new ArrayList<>();
    private final String title;
    private int taped = 0;
    private int standards = 0;

    Gauge(String title) {
        this.title = title;
    }

    static void end() {
        System.out.println(wrong == 0 ? "all answers are as due" : wrong + " answers are not as due");
        if (wrong != 0) System.exit(1);
    }

    /** The answer of any object that has the document's face. */
    static int answer(Object on, String name, long... a) {
        Method method = faceOf(on.getClass()).get(name);
        if (method == null) throw new IllegalStateException("no method " + name);
        Class<?>[] types = method.getParameterTypes();
        Object[] arguments = new Object[a.length];
        for (int i = 0; i < a.length; i++) arguments[i] = types[i] == long.class ? (Object) a[i] : (Object) (int) a[i];
        try {
            return (Integer) method.invoke(on, arguments);
        } catch (ReflectiveOperationException e) {
            throw new IllegalStateException(told(name, a), e);
        }
    }

    private static Map<String, Method> faceOf(Class<?> type) {
        return FACES.computeIfAbsent(type, of -> {
            Map<String, Method> face = new HashMap<>();
            for (Method method : of.getDeclaredMethods()) {
                if (!Modifier.isPrivate(method.getModifiers())) face.put(method.getName(), method);
            }
            return face;
        });
    }

    static String told(String name, long... a) {
        String all = Arrays.toString(a);
        return name + "(" + all.substring(1, all.length() - 1) + ")";
    }

    /** A number that this call answers if it is refused with the code. */
    static int refusal(int code, String name) {
        return FAR.contains(name) ? 1000000000 - code : code;
    }

    private int call(String name, long... a) {
        calls.add(new Call(name, a));
        if (calls.size() == CALLS + 1) tell("the test makes more than " + CALLS + " calls");
        int got = answer(real, name, a);
        if (name.equals("feed") && got > 0) taped = got;
        if (name.equals("standard") && (got >= 0 || got <= -20)) taped = 0;
        if (name.equals("standard") && got >= 0) standards = got + 1;
        return got;
    }

    Gauge due(long want, String name, long... a) {
        int got = call(name, a);
        if (got != want) tell(told(name, a) + " answered " + got + ", due is " + want);
        return this;
    }

    /** Not refused, whatever it answers: no REFUSAL more is counted. */
    Gauge taken(String name, long... a) {
        int got = call(name, a);
        for (int code = -6; code <= -1; code++) {
            if (got == refusal(code, name)) tell(told(name, a) + " was refused with " + got);
        }
        List<Call> counts = new ArrayList<>();
        for (int what = 11; what <= 16; what++) counts.add(new Call("count", new long[] {what}));
        if (!Arrays.equals(asked(calls, counts), asked(calls.subList(0, calls.size() - 1), counts))) {
            tell(told(name, a) + " was taken, but a REFUSAL was counted");
        }
        return this;
    }

    /** Refused with this code; and nothing is otherwise but how many such REFUSALS there were. */
    Gauge refused(int code, String name, long... a) {
        due(refusal(code, name), name, a);
        List<Call> before = calls.subList(0, calls.size() - 1);
        List<Call> questions = questions();
        int room = CALLS - calls.size();
        for (int from = 0; room > 0 && from < questions.size(); from += room) {
            List<Call> some = questions.subList(from, Math.min(questions.size(), from + room));
            int[] seen = asked(before, some);
            for (int i = 0; i < seen.length; i++) {
                Call one = some.get(i);
                if (one.name.equals("count") && one.a[0] == 10 - code) seen[i]++;
            }
            int[] got = asked(calls, some);
            for (int i = 0; i < seen.length; i++) {
                if (got[i] == seen[i]) continue;
                tell("behind " + told(name, a) + ", which is refused, " + told(some.get(i).name, some.get(i).a)
                    + " answers " + got[i] + ", due is " + seen[i]);
                return this;
            }
        }
        return this;
    }

    /** THE TAPE gets this text. */
    Gauge feed(String text) {
        for (int i = 0; i < text.length(); i += 8) {
            int n = Math.min(8, text.length() - i);
            long bytes = 0;
            for (int j = n - 1; j >= 0; j--) bytes = bytes << 8 | text.charAt(i + j);
            due(taped + n, "feed", n, bytes);
        }
        return this;
    }

    Gauge standard(String text, int purpose, int day) {
        return feed(text).due(standards, "standard", purpose, day);
    }

    private void tell(String what) {
        wrong++;
        System.out.println(title + ": " + what);
    }

    /** What a new object answers to these questions behind these calls. */
    private static int[] asked(List<Call> first, List<Call> questions) {
        if (first.size() + questions.size() > CALLS) throw new IllegalStateException("too many calls to ask a twin");
        RiverGauge twin = new RiverGauge();
        for (Call one : first) answer(twin, one.name, one.a);
        int[] answers = new int[questions.size()];
        for (int i = 0; i < answers.length; i++) answers[i] = answer(twin, questions.get(i).name, questions.get(i).a);
        return answers;
    }

    // First those that change nothing; behind them those that show what can not be asked: texts, rows, room.
    private List<Call> questions() {
        List<Call> first = new ArrayList<>();
        for (int what = 0; what < 8; what++) ask(first, "count", what);
        int[] counts = asked(calls, first);
        List<Call> all = new ArrayList<>();
        for (int what = 0; what <= 16; what++) ask(all, "count", what);
        ask(all, "mend");
        for (int post = 0; post < counts[1]; post++) askPost(all, post, counts[0]);
        for (int i = Math.max(0, counts[3] - NUMBERS_ASKED); i < counts[3]; i++) ask(all, "isStruck", i, counts[0]);
        for (int i = Math.max(0, counts[5] - NUMBERS_ASKED); i < counts[5]; i++) ask(all, "counts", i, counts[0]);
        for (int i = Math.max(0, counts[7] - 3); i < counts[7]; i++) {
            for (int what = 0; what < 4; what++) ask(all, "published", i, what);
        }
        for (int post = 0; post < counts[1]; post++) askRoom(all, post);
        ask(all, "standard", 0, counts[0] / 96);
        for (int i = Math.max(0, counts[3] - NUMBERS_ASKED); i < counts[3]; i++) ask(all, "isStruck", i, counts[0]);
        ask(all, "limit", 0);
        ask(all, "post", 0);
        return all;
    }

    private static void ask(List<Call> all, String name, long... a) {
        all.add(new Call(name, a));
    }

    private void askPost(List<Call> all, int post, int now) {
        TreeSet<Long> times = new TreeSet<>(List.of(0L, (long) now, 9999L));
        for (int i = calls.size() - 1; i >= 0 && times.size() < TIMES_ASKED; i--) {
            Integer place = TIMED.get(calls.get(i).name);
            long time = place == null ? -1 : calls.get(i).a[place];
            if (time >= 0 && time <= 9999) times.add(time);
        }
        for (long time : times) {
            ask(all, "zeroAt", post, time, now);
            ask(all, "heightAt", post, time, now);
            for (int what = 0; what < 3; what++) ask(all, "flowOf", post, time, now, what);
            ask(all, "points", post, time, now);
            ask(all, "gap", post, Math.max(0, time - 1), 0);
        }
        for (int what = 0; what < 4; what++) ask(all, "breaks", post, what);
        for (int run = 0; run < 2; run++) ask(all, "shift", post, run);
        ask(all, "next", post);
        ask(all, "peak", post, 0, 9999, now);
    }

    private static void askRoom(List<Call> all, int post) {
        ask(all, "judge", post);
        ask(all, "low", post, 0);
        ask(all, "beside", post, -1);
        ask(all, "stretch", post, 4321);
        ask(all, "moved", post, 0, 0);
        ask(all, "height", post, 0, 0, 0);
        ask(all, "measure", post, 0, 0, 0);
        ask(all, "under", post, 0, 0, 0, 0);
        ask(all, "publish", post, 0);
        for (int i = 8; i >= 0; i--) ask(all, "base", post, i, 99999, 99999);
    }
}
