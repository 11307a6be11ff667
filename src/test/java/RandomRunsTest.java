import java.util.ArrayList;
import java.util.List;
import java.util.Random;

/** Random runs of 512 calls, each answer held against PlainModel's. */
public final class RandomRunsTest {
    private static final int CALLS = 512;
    private static final String SIGNS = "()!&|<=>+-*0123456789dmrkabghnfwxizA \u00ff";
    private static final int[] EDGES = {-2147483648, -100000, -10000, -9999, -2001, -2000, -1000, -999, -129, -128, -2,
        -1, 0, 1, 2, 7, 8, 9, 12, 40, 60, 99, 100, 101, 127, 128, 200, 201, 300, 999, 1000, 9998, 9999, 10000, 99999,
        100000, 99999999, 100000000, 2147483647};
    private static final String[] NAMES = {"go", "post", "moved", "zeroAt", "height", "strike", "isStruck", "heightAt",
        "measure", "drop", "counts", "feed", "standard", "low", "stretch", "points", "point", "flowAt", "under",
        "flowOf", "base", "breaks", "shift", "put", "judge", "beside", "gap", "peak", "often", "agree", "next",
        "publish", "published", "mend", "limit", "count"};
    private static final int GO = 0;
    private static final int POST = 1;
    private static final int HEIGHT = 4;
    private static final int HEIGHT_AT = 7;
    private static final int MEASURE = 8;
    private static final int FEED = 11;
    private static final int STANDARD = 12;
    private static final int BASE = 20;
    private static final int BREAKS = 21;
    private static final int SHIFT = 22;
    private static final int PUT = 23;
    private static final int JUDGE = 24;
    private static final int BESIDE = 25;
    private static final int GAP = 26;

    private final Random random;
    private final RiverGauge real = new RiverGauge();
    private final PlainModel plain = new PlainModel();
    private final List<String> told = new ArrayList<>();
    private final int span;
    private final int levels;
    private final int flowTop;
    private final int posts;
    private final int edgy;
    private final int[] weights = new int[NAMES.length];
    private final List<Integer> times = new ArrayList<>();
    // With a bed, FLOWS are near the base of their POST, so that some SHIFTS go.
    private final boolean bed;
    private final int standards;
    private String letters = "";
    private boolean fits = true;

    private RandomRunsTest(long seed) {
        random = new Random(seed);
        span = pick(20, 60, 250, 1200, 9999);
        levels = pick(5, 40, 200, 2000, 9999);
        flowTop = pick(6, 100, 2000, 99999);
        posts = pick(1, 1, 2, 2, 3, 6);
        edgy = pick(0, 2, 10, 50);
        weigh(10 + random.nextInt(30), NAMES);
        weigh(pick(2, 10), "go", "post", "strike", "drop", "stretch", "low", "feed", "base", "standard");
        weigh(pick(50, 200, 400), "height", "measure");
        weigh(10 + random.nextInt(60), "flowOf", "breaks", "shift", "judge", "gap", "peak", "agree", "publish", "mend");
        bed = random.nextInt(3) == 0;
        standards = pick(10, 50, 300);
        if (bed) weigh(1, "measure", "base", "height", "put", "strike");
    }

    private void weigh(int weight, String... names) {
        for (String name : names) weights[List.of(NAMES).indexOf(name)] = weight;
    }

    private int pick(int... all) {
        return all[random.nextInt(all.length)];
    }

    public static void main(String[] args) {
        int runs = args.length > 0 ? Integer.parseInt(args[0]) : 400;
        long first = args.length > 1 ? Long.parseLong(args[1]) : 1;
        int wrong = 0;
        for (long seed = first; seed < first + runs && wrong < 3; seed++) {
            RandomRunsTest run = new RandomRunsTest(seed);
            run.play();
            if (run.fits) continue;
            wrong++;
            System.out.println("seed " + seed + ":");
            for (String line : run.told) System.out.println("  " + line);
        }
        System.out.println(wrong == 0 ? "all " + runs + " runs are as due" : "some runs are not as due");
        if (wrong != 0) System.exit(1);
    }

    private void play() {
        for (int i = 0; i < posts; i++) call(POST, range(-999, 999) / pick(1, 10, 200));
        if (random.nextInt(4) > 0) call(GO, 1 + random.nextInt(span));
        for (int i = 0; bed && i < posts; i++) {
            call(BASE, i, 0, -1100, 0);
            call(BASE, i, 1, levels + 1100, 2 * (levels + 2200));
        }
        while (fits && told.size() < CALLS) {
            if (random.nextInt(standards) == 0) tellStandard();
            else if (bed && random.nextInt(10) == 0) tellBed();
            else if (random.nextInt(50) == 0) proveBed();
            else if (random.nextInt(40) == 0) tellGap();
            else tellSomething();
        }
    }

    private void tellBed() {
        int post = random.nextInt(posts);
        int time = aTime();
        int level = aLevel();
        call(HEIGHT, post, time, 1, level);
        int height = call(HEIGHT_AT, post, time, plain.count(0));
        if (height >= 1000000000) return;
        int flow = Math.max(0, 2 * (height + 1100 + pick(0, 0, 7, -12, 60)));
        call(MEASURE, post, time, Math.min(flow, 99999), random.nextInt(3));
    }

    private void proveBed() {
        int post = random.nextInt(posts);
        int set = call(BREAKS, post, 2);
        if (set < 0 && random.nextInt(4) > 0) return;
        call(PUT, Math.max(-128, set) + pick(0, 0, 0, 0, 1));
        for (int run = 0; run <= Integer.bitCount(set) && run < 9; run++) {
            int shift = call(SHIFT, post, run);
            call(PUT, Math.min(127, shift) + pick(0, 0, 0, 0, 0, 1));
        }
        if (random.nextInt(5) == 0) call(PUT, 0);
        call(JUDGE, post);
    }

    private void tellGap() {
        int post = random.nextInt(posts);
        int other = random.nextInt(posts);
        int now = plain.count(0);
        int start = random.nextInt(Math.min(now, span) + 1);
        int end = Math.min(now, start + pick(2, 10, 200));
        int time = range(start, end);
        call(BESIDE, post, other);
        for (int at : new int[] {start, time, end}) {
            if (at != time) call(HEIGHT, post, at, 1, aLevel());
            if (random.nextInt(6) > 0) call(HEIGHT, other, at, 1, aLevel());
        }
        for (int what = 0; what < 4; what++) call(GAP, post, time, what);
    }

    private void tellStandard() {
        int purpose = random.nextInt(3);
        letters = random.nextInt(3) == 0 ? "dmrkabghnfwxi" : new String[] {"dmrkab", "dmghn", "dmfwxi"}[purpose];
        StringBuilder text = new StringBuilder();
        ors(text, 0);
        if (random.nextInt(4) == 0) spoil(text);
        int day = plain.count(0) / 96;
        for (int i = 0; i < text.length(); i += 8) {
            long bytes = 0;
            int n = Math.min(8, text.length() - i);
            for (int j = n - 1; j >= 0; j--) bytes = bytes << 8 | text.charAt(i + j);
            call(FEED, n, bytes);
        }
        call(STANDARD, purpose, day + pick(0, 0, 0, 0, 1, 2, -1));
    }

    private void spoil(StringBuilder text) {
        int at = random.nextInt(text.length() + 1);
        char sign = SIGNS.charAt(random.nextInt(SIGNS.length()));
        if (at < text.length() && random.nextBoolean()) text.deleteCharAt(at);
        else text.insert(at, sign);
        if (random.nextInt(5) == 0) text.setLength(random.nextInt(text.length() + 1));
    }

    private void ors(StringBuilder text, int depth) {
        ands(text, depth);
        while (random.nextInt(4) == 0) {
            text.append('|');
            ands(text, depth);
        }
    }

    private void ands(StringBuilder text, int depth) {
        test(text, depth);
        while (random.nextInt(4) == 0) {
            text.append('&');
            test(text, depth);
        }
    }

    private void test(StringBuilder text, int depth) {
        int kind = depth > 6 ? 9 : random.nextInt(10);
        if (kind < 2) {
            text.append('!');
            test(text, depth + 1);
        } else if (kind < 4) {
            text.append('(');
            ors(text, depth + 1);
            text.append(')');
        } else {
            sum(text);
            text.append("<=>".charAt(random.nextInt(3)));
            sum(text);
        }
    }

    private void sum(StringBuilder text) {
        unit(text);
        while (random.nextInt(3) == 0) {
            text.append("+-*".charAt(random.nextInt(3)));
            unit(text);
        }
    }

    private void unit(StringBuilder text) {
        if (random.nextBoolean()) text.append(letters.charAt(random.nextInt(letters.length())));
        else text.append(random.nextInt(pick(2, 3, 100, 1000, 100000)));
    }

    private void tellSomething() {
        int all = 0;
        for (int weight : weights) all += weight;
        int at = random.nextInt(all);
        int op = 0;
        while (at >= weights[op]) {
            at -= weights[op];
            op++;
        }
        long[] a = likely(op);
        for (int i = 0; i < a.length; i++) {
            if (random.nextInt(1000) < edgy) a[i] = EDGES[random.nextInt(EDGES.length)] + pick(0, 0, 0, 1, -1);
        }
        call(op, a);
    }

    private int range(int from, int to) {
        return from + random.nextInt(to - from + 1);
    }

    private int aPost() {
        return random.nextInt(30) == 0 ? range(-1, 6) : random.nextInt(posts);
    }

    private int aTime() {
        int now = plain.count(0);
        if (!times.isEmpty() && random.nextInt(3) > 0) return times.get(random.nextInt(times.size()));
        return random.nextInt(20) == 0 ? range(0, 9999) : random.nextInt(Math.min(now, span) + 1);
    }

    private int aK() {
        int now = plain.count(0);
        return random.nextInt(3) == 0 ? random.nextInt(now + 1) : random.nextInt(10) == 0 ? 9999 : now;
    }

    private int aLevel() {
        return random.nextInt(levels + 1);
    }

    private long[] likely(int op) {
        int now = plain.count(0);
        int t = aTime();
        int later = Math.min(9999, t + random.nextInt(span + 1));
        switch (NAMES[op]) {
            case "go": return of(1 + random.nextInt(pick(2, 30, 300)));
            case "post": return of(range(-999, 999));
            case "moved": return of(aPost(), range(-999, 999) / pick(1, 10, 100), t);
            case "zeroAt": return of(aPost(), t, aK());
            case "height": return of(aPost(), t, random.nextInt(2), random.nextInt(8) == 0 ? -1 : aLevel());
            case "strike": return of(random.nextInt(plain.count(3) + 1));
            case "isStruck": return of(random.nextInt(plain.count(3) + 1), aK());
            case "heightAt": return of(aPost(), t, aK());
            case "measure": return of(aPost(), t, random.nextInt(flowTop + 1), random.nextInt(pick(3, 30, 100)));
            case "drop": return of(random.nextInt(plain.count(5) + 1));
            case "counts": return of(random.nextInt(plain.count(5) + 1), aK());
            case "feed": return of(1 + random.nextInt(8), random.nextLong());
            case "standard": return of(random.nextInt(3), now / 96 + random.nextInt(3));
            case "low": return of(aPost(), pick(-2000, range(-2000, 9999), aLevel()));
            case "stretch": return of(aPost(), pick(0, t, later));
            case "points": return of(aPost(), t, aK());
            case "point": return of(aPost(), t, aK(), range(-1, 5), random.nextInt(2));
            case "flowAt": return of(aPost(), t, pick(range(-9999, 99999), aLevel(), aLevel(), aLevel() + 500));
            case "under": return of(aPost(), random.nextInt(2), t, pick(t, later, later, later), random.nextInt(100));
            case "flowOf": return of(aPost(), t, aK(), random.nextInt(3));
            case "base": return of(aPost(), random.nextInt(pick(1, 3, 9)), range(-1100, levels), random.nextInt(flowTop + 1));
            case "breaks": return of(aPost(), random.nextInt(4));
            case "shift": return of(aPost(), random.nextInt(3));
            case "put": return of(pick(range(-128, 127), random.nextInt(4), range(-50, 50)));
            case "judge": return of(aPost());
            case "beside": return of(aPost(), pick(aPost(), aPost(), -1));
            case "gap": return of(aPost(), t, random.nextInt(4));
            case "peak": return of(aPost(), t, later, aK());
            case "often": return of(aPost(), random.nextInt(pick(1, 100, flowTop + 1)));
            case "agree": return of(aPost(), aPost(), t, Math.min(later, t + pick(3, 30, 299)), random.nextInt(3));
            case "next": return of(aPost());
            case "publish": return of(aPost(), t);
            case "published": return of(random.nextInt(plain.count(7) + 1), random.nextInt(4));
            case "mend": return of();
            case "limit": return of(random.nextInt(101));
            default: return of(random.nextInt(18));
        }
    }

    private static long[] of(long... all) {
        return all;
    }

    // What is asked about the state is asked of the model, so that the object gets these calls and no others.
    private int call(int op, long... a) {
        if (!fits || told.size() >= CALLS) return 0;
        if (op == HEIGHT) times.add((int) Math.max(0, Math.min(9999, a[1])));
        int got = Gauge.answer(real, NAMES[op], a);
        int want = Gauge.answer(plain, NAMES[op], a);
        fits = got == want;
        told.add(Gauge.told(NAMES[op], a) + " answered " + got + (fits ? "" : ", due is " + want));
        return got;
    }
}
