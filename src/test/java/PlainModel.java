import java.util.ArrayList;
import java.util.HashMap;
import java.util.List;
import java.util.Map;
import java.util.TreeMap;
import java.util.TreeSet;

/** The document told once more, as plainly and slowly as can be, so that random runs have something to be held against. */
final class PlainModel {
    private record Zero(int post, int zero, int from, int known) { }
    private record Flow(int post, int time, int flow, int wrong, int known) { }
    private record Standard(int purpose, int day, int known, String text) { }
    private record Cover(int post, int kind, int from, int to, int n, int known) { }
    private record Published(int post, int time, int flow) { }
    private record Reading(int post, int time, int kind, int read, int known) { }
    private record Rated(int flow, int wrong, int beyond) { }
    private record Curve(List<int[]> points, int wrong) { }

    private final int[] refusals = new int[7];
    private int now = 0;
    private int limit = 5;
    private final List<Integer> first = new ArrayList<>();
    private final List<Zero> zeros = new ArrayList<>();
    private final List<Reading> readings = new ArrayList<>();
    private final Map<Integer, Integer> readingStruck = new HashMap<>();
    private final List<Flow> flows = new ArrayList<>();
    private final Map<Integer, Integer> flowStruck = new HashMap<>();
    private final List<Standard> standards = new ArrayList<>();
    private final List<Cover> covers = new ArrayList<>();
    private final List<Published> publishedOnes = new ArrayList<>();
    private final Map<Integer, Integer> lows = new HashMap<>();
    private final Map<Integer, Integer> besides = new HashMap<>();
    private final Map<Integer, TreeSet<Integer>> stretches = new HashMap<>();
    private final Map<Integer, List<int[]>> bases = new HashMap<>();
    private final StringBuilder tape = new StringBuilder();
    private final List<Integer> row = new ArrayList<>();

    // Kept for one call only.
    private final Map<String, Integer> heightMemo = new HashMap<>();
    private final Map<String, Curve> curveMemo = new HashMap<>();

    private int no(int code) {
        refusals[-code]++;
        return code;
    }

    private int far(int code) {
        return 1000000000 - no(code);
    }

    private boolean isPost(int p) {
        return p >= 0 && p < first.size();
    }

    private void newCall() {
        heightMemo.clear();
        curveMemo.clear();
    }

    int go(int n) {
        if (n < 1) return no(-4);
        if ((long) now + n > 9999) return no(-6);
        now += n;
        return now;
    }

    int post(int zero) {
        if (zero < -999) return no(-4);
        if (zero > 999) return no(-6);
        if (first.size() == 6) return no(-6);
        first.add(zero);
        return first.size() - 1;
    }

    int moved(int post, int zero, int from) {
        if (!isPost(post)) return no(-1);
        if (zero < -999) return no(-4);
        if (from < 0) return no(-4);
        if (zero > 999) return no(-6);
        if (from > now) return no(-6);
        if (zeros.size() == 60) return no(-6);
        zeros.add(new Zero(post, zero, from, now));
        return zeros.size();
    }

    private int zero(int post, int time, int k) {
        Zero best = null;
        for (Zero z : zeros) {
            if (z.post != post || z.known > k || z.from > time) continue;
            if (best == null || z.from >= best.from) best = z;
        }
        return best == null ? first.get(post) : best.zero;
    }

    int zeroAt(int post, int time, int k) {
        if (!isPost(post)) return far(-1);
        if (time < 0 || k < 0) return far(-4);
        if (time > 9999 || k > 9999) return far(-6);
        return zero(post, time, k);
    }

    int height(int post, int time, int kind, int read) {
        if (!isPost(post)) return no(-1);
        if (kind != 0 && kind != 1) return no(-2);
        if (time < 0) return no(-4);
        if (read < -1 || read == -1 && kind == 1) return no(-4);
        if (time > now || read > 9999) return no(-6);
        if (readings.size() == 300) return no(-6);
        readings.add(new Reading(post, time, kind, read, now));
        return readings.size() - 1;
    }

    int strike(int h) {
        if (h < 0 || h >= readings.size()) return no(-1);
        if (readingStruck.containsKey(h) || readings.get(h).read == -1) return no(-3);
        readingStruck.put(h, now);
        return 1;
    }

    private boolean toldStruck(int h, int k) {
        return readingStruck.containsKey(h) && readingStruck.get(h) <= k;
    }

    private int struck(int h, int k) {
        Reading x = readings.get(h);
        if (x.read == -1 || x.known > k) return 0;
        if (toldStruck(h, k)) return 2;
        Standard s = inForce(0, x.time / 96, k);
        if (s == null) return 0;
        int ahead = -1;
        for (int i = 0; i < readings.size(); i++) {
            Reading y = readings.get(i);
            if (y.post != x.post || y.known > k || y.read == -1 || toldStruck(i, k)) continue;
            boolean before = y.time < x.time || y.time == x.time && i < h;
            if (!before) continue;
            if (ahead < 0 || y.time > readings.get(ahead).time
                    || y.time == readings.get(ahead).time && i > ahead) ahead = i;
        }
        Map<Character, Integer> letters = letters(x.time);
        letters.put('r', x.read);
        letters.put('k', x.kind);
        letters.put('a', ahead < 0 ? 0 : Math.abs(x.read - readings.get(ahead).read));
        letters.put('b', ahead < 0 ? 9999 : x.time - readings.get(ahead).time);
        return holds(s.text, letters) ? 1 : 0;
    }

    int isStruck(int h, int k) {
        if (h < 0 || h >= readings.size()) return no(-1);
        if (k < 0) return no(-4);
        if (k > 9999) return no(-6);
        return struck(h, k);
    }

    /** HEIGHT, or null. */
    private Integer level(int post, int time, int k) {
        String key = post + "/" + time + "/" + k;
        if (!heightMemo.containsKey(key)) heightMemo.put(key, levelAnew(post, time, k));
        return heightMemo.get(key);
    }

    private Integer levelAnew(int post, int time, int k) {
        int hand = -1;
        int pen = -1;
        for (int i = 0; i < readings.size(); i++) {
            Reading x = readings.get(i);
            if (x.post != post || x.time != time || x.known > k || x.read == -1 || struck(i, k) != 0) continue;
            if (x.kind == 1) hand = i;
            else pen = i;
        }
        int taken = hand >= 0 ? hand : pen;
        return taken < 0 ? null : (Integer) (readings.get(taken).read + zero(post, time, k));
    }

    int heightAt(int post, int time, int k) {
        newCall();
        if (!isPost(post)) return far(-1);
        if (time < 0 || k < 0) return far(-4);
        if (time > 9999 || k > 9999) return far(-6);
        Integer level = level(post, time, k);
        return level == null ? far(-5) : level;
    }

    int measure(int post, int time, int flow, int wrong) {
        if (!isPost(post)) return no(-1);
        if (time < 0 || flow < 0 || wrong < 0) return no(-4);
        if (time > now || flow > 99999 || wrong > 99 || flows.size() == 60) return no(-6);
        flows.add(new Flow(post, time, flow, wrong, now));
        return flows.size() - 1;
    }

    int drop(int f) {
        if (f < 0 || f >= flows.size()) return no(-1);
        if (flowStruck.containsKey(f)) return no(-3);
        flowStruck.put(f, now);
        return 1;
    }

    private boolean countsOn(int f, int k) {
        Flow x = flows.get(f);
        if (x.known > k) return false;
        if (flowStruck.containsKey(f) && flowStruck.get(f) <= k) return false;
        return level(x.post, x.time, k) != null;
    }

    int counts(int f, int k) {
        newCall();
        if (f < 0 || f >= flows.size()) return no(-1);
        if (k < 0) return no(-4);
        if (k > 9999) return no(-6);
        return countsOn(f, k) ? 1 : 0;
    }

    int feed(int n, long bytes) {
        if (n < 1) return no(-4);
        if (n > 8 || tape.length() + n > 60) return no(-6);
        for (int i = 0; i < n; i++) tape.append((char) ((bytes >>> (8 * i)) & 0xff));
        return tape.length();
    }

    int standard(int purpose, int day) {
        if (purpose < 0 || purpose > 2) return no(-2);
        if (day < now / 96) return no(-4);
        if (day > 200 || standards.size() == 20) return no(-6);
        String text = tape.toString();
        tape.setLength(0);
        int fault = fault(text);
        if (fault >= 0) return -20 - fault;
        standards.add(new Standard(purpose, day, now, text));
        return standards.size() - 1;
    }

    private Standard inForce(int purpose, int day, int k) {
        Standard found = null;
        for (Standard s : standards) {
            if (s.purpose != purpose || s.known > k || s.day > day) continue;
            if (found == null || s.day >= found.day) found = s;
        }
        return found;
    }

    private static Map<Character, Integer> letters(int time) {
        Map<Character, Integer> letters = new HashMap<>();
        for (char c : "dmrkabghnfwxi".toCharArray()) letters.put(c, 0);
        letters.put('d', time / 96);
        letters.put('m', time % 96);
        return letters;
    }

    /** A walk over the signs with a pile of what is open; -1 if there is no FAULT. */
    static int fault(String text) {
        StringBuilder open = new StringBuilder();
        String state = "test";
        int digits = 0;
        for (int i = 0; i < text.length(); i++) {
            char c = text.charAt(i);
            boolean digit = c >= '0' && c <= '9';
            boolean letter = "dmrkabghnfwxi".indexOf(c) >= 0;
            switch (state) {
                case "test":
                    if (c == '!' || c == '(') {
                        if (open.length() == 5) return i;
                        open.append(c);
                        break;
                    }
                    if (!digit && !letter) return i;
                    digits = digit ? 1 : 99;
                    state = "left";
                    break;
                case "left unit":
                case "right unit":
                    if (!digit && !letter) return i;
                    digits = digit ? 1 : 99;
                    state = state.substring(0, state.indexOf(' '));
                    break;
                case "left":
                case "right":
                    if (digit && digits < 5) {
                        digits++;
                        break;
                    }
                    if (c == '+' || c == '-' || c == '*') {
                        state = state + " unit";
                        break;
                    }
                    if (state.equals("left")) {
                        if (c != '<' && c != '=' && c != '>') return i;
                        state = "right unit";
                        break;
                    }
                    dropNots(open);
                    state = behind(c, open);
                    if (state == null) return i;
                    break;
                default:
                    state = behind(c, open);
                    if (state == null) return i;
            }
        }
        if (state.equals("right")) {
            dropNots(open);
            state = "behind";
        }
        return state.equals("behind") && open.length() == 0 ? -1 : text.length();
    }

    private static void dropNots(StringBuilder open) {
        while (open.length() > 0 && open.charAt(open.length() - 1) == '!') open.setLength(open.length() - 1);
    }

    private static String behind(char c, StringBuilder open) {
        if (c == '&' || c == '|') return "test";
        if (c != ')' || open.length() == 0) return null;
        open.setLength(open.length() - 1);
        dropNots(open);
        return "behind";
    }

    /** Splits at the outermost sign, weakest first: another way than reading from the left. */
    private static boolean holds(String text, Map<Character, Integer> letters) {
        int at = lastOutside(text, '|');
        if (at >= 0) return holds(text.substring(0, at), letters) | holds(text.substring(at + 1), letters);
        at = lastOutside(text, '&');
        if (at >= 0) return holds(text.substring(0, at), letters) & holds(text.substring(at + 1), letters);
        if (text.charAt(0) == '!') return !holds(text.substring(1), letters);
        if (text.charAt(0) == '(') return holds(text.substring(1, text.length() - 1), letters);
        for (char sign : "<=>".toCharArray()) {
            at = text.indexOf(sign);
            if (at < 0) continue;
            long left = sum(text.substring(0, at), letters);
            long right = sum(text.substring(at + 1), letters);
            return sign == '<' ? left < right : sign == '=' ? left == right : left > right;
        }
        throw new IllegalStateException(text);
    }

    private static int lastOutside(String text, char sign) {
        int open = 0;
        for (int i = text.length() - 1; i >= 0; i--) {
            if (text.charAt(i) == ')') open++;
            if (text.charAt(i) == '(') open--;
            if (open == 0 && text.charAt(i) == sign) return i;
        }
        return -1;
    }

    private static long sum(String text, Map<Character, Integer> letters) {
        for (int i = text.length() - 1; i >= 0; i--) {
            char c = text.charAt(i);
            if ("+-*".indexOf(c) < 0) continue;
            long left = sum(text.substring(0, i), letters);
            long right = sum(text.substring(i + 1), letters);
            long all = c == '+' ? left + right : c == '-' ? left - right : left * right;
            return all > 1000000000L ? 1000000000L : all < -1000000000L ? -1000000000L : all;
        }
        char c = text.charAt(0);
        return c >= '0' && c <= '9' ? Long.parseLong(text) : letters.get(c);
    }

    int low(int post, int v) {
        if (!isPost(post)) return far(-1);
        if (v < -2000) return far(-4);
        if (v > 9999) return far(-6);
        Integer was = lows.put(post, v);
        return was == null ? -2000 : was;
    }

    int stretch(int post, int from) {
        if (!isPost(post)) return no(-1);
        TreeSet<Integer> own = stretches.computeIfAbsent(post, p -> new TreeSet<>());
        if (own.contains(from)) return no(-3);
        if (from < 0) return no(-4);
        if (from > 9999 || own.size() == 8) return no(-6);
        own.add(from);
        return own.size();
    }

    private Curve curveAt(int post, int time, int k) {
        TreeSet<Integer> own = stretches.getOrDefault(post, new TreeSet<>());
        Integer from = own.floor(time);
        Integer next = own.higher(time);
        return curve(post, from == null ? 0 : from, next == null ? 9999 : next - 1, k);
    }

    private Curve curve(int post, int s, int e, int k) {
        String key = post + "/" + s + "/" + e + "/" + k;
        if (!curveMemo.containsKey(key)) curveMemo.put(key, curveAnew(post, s, e, k));
        return curveMemo.get(key);
    }

    // Flows that never fall, by the greatest of the least means: min over ends of max over starts.
    private Curve curveAnew(int post, int s, int e, int k) {
        TreeMap<Integer, long[]> byHeight = new TreeMap<>();
        int wrong = 0;
        for (int f = 0; f < flows.size(); f++) {
            Flow x = flows.get(f);
            if (x.post != post || x.time < s || x.time > e || !countsOn(f, k)) continue;
            long[] sum = byHeight.computeIfAbsent(level(post, x.time, k), h -> new long[2]);
            sum[0] += x.flow;
            sum[1]++;
            wrong = Math.max(wrong, x.wrong);
        }
        List<Integer> heights = new ArrayList<>(byHeight.keySet());
        List<int[]> points = new ArrayList<>();
        for (int i = 0; i < heights.size(); i++) {
            long[] least = null;
            for (int b = i; b < heights.size(); b++) {
                long[] most = null;
                for (int a = 0; a <= i; a++) {
                    long[] mean = new long[2];
                    for (int j = a; j <= b; j++) {
                        mean[0] += byHeight.get(heights.get(j))[0];
                        mean[1] += byHeight.get(heights.get(j))[1];
                    }
                    if (most == null || mean[0] * most[1] > most[0] * mean[1]) most = mean;
                }
                if (least == null || most[0] * least[1] < least[0] * most[1]) least = most;
            }
            points.add(new int[] {heights.get(i), (int) (least[0] / least[1])});
        }
        return new Curve(points, wrong);
    }

    /** FLOW AT, or -1 without POINTS. */
    private static long flowBy(List<int[]> points, int height, int low) {
        if (points.isEmpty()) return -1;
        for (int[] p : points) {
            if (p[0] == height) return p[1];
        }
        int[] lowest = points.get(0);
        if (height < lowest[0]) {
            if (lowest[0] <= low) return lowest[1];
            if (height <= low) return 0;
            return (long) lowest[1] * (height - low) / (lowest[0] - low);
        }
        if (points.size() == 1) return lowest[1];
        for (int i = 1; i < points.size(); i++) {
            int[] p = points.get(i - 1);
            int[] q = points.get(i);
            if (height > p[0] && height < q[0]) return line(p, q, height);
        }
        return Math.min(99999999L, line(points.get(points.size() - 2), points.get(points.size() - 1), height));
    }

    private static long line(int[] p, int[] q, int height) {
        return p[1] + (long) (q[1] - p[1]) * (height - p[0]) / (q[0] - p[0]);
    }

    int points(int post, int time, int k) {
        newCall();
        if (!isPost(post)) return no(-1);
        if (time < 0 || k < 0) return no(-4);
        if (time > 9999 || k > 9999) return no(-6);
        return curveAt(post, time, k).points.size();
    }

    int point(int post, int time, int k, int i, int what) {
        newCall();
        if (!isPost(post)) return far(-1);
        if (what != 0 && what != 1) return far(-2);
        if (time < 0 || k < 0) return far(-4);
        if (time > 9999 || k > 9999) return far(-6);
        List<int[]> points = curveAt(post, time, k).points;
        return i < 0 || i >= points.size() ? far(-5) : points.get(i)[what];
    }

    int flowAt(int post, int time, int height) {
        newCall();
        if (!isPost(post)) return no(-1);
        if (time < 0 || height < -9999) return no(-4);
        if (time > 9999 || height > 99999) return no(-6);
        long flow = flowBy(curveAt(post, time, now).points, height, lows.getOrDefault(post, -2000));
        return flow < 0 ? no(-5) : (int) flow;
    }

    int under(int post, int kind, int from, int to, int n) {
        if (!isPost(post)) return no(-1);
        if (kind != 0 && kind != 1) return no(-2);
        if (from < 0 || to < 0 || n < 0 || to < from) return no(-4);
        if (from > 9999 || to > 9999 || n > 99 || covers.size() == 40) return no(-6);
        covers.add(new Cover(post, kind, from, to, n, now));
        return covers.size();
    }

    private Rated rated(int post, int time, int k) {
        Integer level = level(post, time, k);
        if (level == null) return null;
        Curve curve = curveAt(post, time, k);
        long flow = flowBy(curve.points, level, lows.getOrDefault(post, -2000));
        if (flow < 0) return null;
        for (int kind = 0; kind < 2; kind++) {
            long most = 0;
            for (Cover c : covers) {
                if (c.post != post || c.kind != kind || c.known > k || time < c.from || time > c.to) continue;
                boolean whole = kind == 0 || time == c.to;
                most = Math.max(most, whole ? c.n : (long) c.n * (time - c.from) / (c.to - c.from));
            }
            flow -= flow * most / 100;
        }
        boolean beyond = level > curve.points.get(curve.points.size() - 1)[0];
        int wrong = beyond ? 2 * curve.wrong + 10 : curve.wrong;
        return new Rated((int) flow, Math.min(100, wrong), beyond ? 1 : 0);
    }

    int flowOf(int post, int time, int k, int what) {
        newCall();
        if (!isPost(post)) return no(-1);
        if (what < 0 || what > 2) return no(-2);
        if (time < 0 || k < 0) return no(-4);
        if (time > 9999 || k > 9999) return no(-6);
        Rated rated = rated(post, time, k);
        if (rated == null) return no(-5);
        return what == 0 ? rated.flow : what == 1 ? rated.wrong : rated.beyond;
    }

    int base(int post, int i, int height, int flow) {
        if (!isPost(post)) return no(-1);
        List<int[]> base = bases.computeIfAbsent(post, p -> new ArrayList<>());
        if (i < 0 || i > base.size()) return no(-1);
        if (height < -9999 || flow < 0) return no(-4);
        if (i > 0 && (height <= base.get(i - 1)[0] || flow < base.get(i - 1)[1])) return no(-4);
        if (height > 99999 || flow > 99999 || i == 8) return no(-6);
        while (base.size() > i) base.remove(base.size() - 1);
        base.add(new int[] {height, flow});
        return base.size();
    }

    /** FLOWS for BREAKS, as rows of the height, the least and the most; null if there are none or no base. */
    private List<int[]> forBreaks(int post) {
        List<Integer> own = new ArrayList<>();
        for (int f = 0; f < flows.size(); f++) {
            if (flows.get(f).post == post && countsOn(f, now)) own.add(f);
        }
        own.sort((f, g) -> Integer.compare(flows.get(f).time, flows.get(g).time));
        List<int[]> rows = new ArrayList<>();
        for (int f : own.subList(0, Math.min(8, own.size()))) {
            Flow x = flows.get(f);
            int by = x.flow * x.wrong / 100;
            rows.add(new int[] {level(post, x.time, now), x.flow - by, x.flow + by});
        }
        return rows.isEmpty() || bases.getOrDefault(post, List.of()).isEmpty() ? null : rows;
    }

    private boolean goesWith(int post, List<int[]> run, int shift) {
        for (int[] f : run) {
            long by = flowBy(bases.get(post), f[0] + shift, -2000);
            if (by < f[1] || by > f[2]) return false;
        }
        return true;
    }

    private static List<List<int[]>> runs(List<int[]> rows, int set) {
        List<List<int[]>> runs = new ArrayList<>();
        for (int i = 0; i < rows.size(); i++) {
            if (i == 0 || (set & 1 << (i - 1)) != 0) runs.add(new ArrayList<>());
            runs.get(runs.size() - 1).add(rows.get(i));
        }
        return runs;
    }

    private Integer bestShift(int post, List<int[]> run) {
        Integer best = null;
        for (int s = -50; s <= 50; s++) {
            if (!goesWith(post, run, s)) continue;
            if (best == null || Math.abs(s) < Math.abs(best)) best = s;
        }
        return best;
    }

    /** FEWEST, RIVALS, the set; null if by none they go. */
    private int[] search(int post, List<int[]> rows) {
        Map<String, Integer> shifts = new HashMap<>();
        int[] best = null;
        for (int set = 0; set < 1 << (rows.size() - 1); set++) {
            boolean all = true;
            int at = 0;
            for (List<int[]> run : runs(rows, set)) {
                String key = at + "+" + run.size();
                if (!shifts.containsKey(key)) shifts.put(key, bestShift(post, run));
                if (shifts.get(key) == null) all = false;
                at += run.size();
            }
            if (!all) continue;
            int many = Integer.bitCount(set);
            if (best == null || many < best[0]) best = new int[] {many, 1, set};
            else if (many == best[0]) best[1]++;
        }
        return best;
    }

    int breaks(int post, int what) {
        newCall();
        if (!isPost(post)) return no(-1);
        if (what < 0 || what > 3) return no(-2);
        List<int[]> rows = forBreaks(post);
        if (rows == null) return no(-5);
        if (what == 3) return rows.size();
        int[] best = search(post, rows);
        return best == null ? -9 : best[what];
    }

    int shift(int post, int run) {
        newCall();
        if (!isPost(post)) return far(-1);
        List<int[]> rows = forBreaks(post);
        if (rows == null) return far(-5);
        int[] best = search(post, rows);
        if (best == null) return far(-3);
        List<List<int[]>> runs = runs(rows, best[2]);
        return run < 0 || run >= runs.size() ? far(-1) : bestShift(post, runs.get(run));
    }

    int put(int v) {
        if (v < -128) return no(-4);
        if (v > 127 || row.size() == 12) return no(-6);
        row.add(v);
        return row.size();
    }

    int judge(int post) {
        newCall();
        if (!isPost(post)) return no(-1);
        List<int[]> rows = forBreaks(post);
        if (rows == null) return no(-5);
        List<Integer> told = new ArrayList<>(row);
        row.clear();
        if (told.isEmpty()) return 0;
        int set = told.get(0) & 0xff;
        if (set >= 1 << (rows.size() - 1)) return 0;
        int place = 1;
        for (List<int[]> run : runs(rows, set)) {
            if (place == told.size()) return place;
            int shift = told.get(place);
            if (Math.abs(shift) > 50 || !goesWith(post, run, shift)) return place;
            place++;
        }
        return place < told.size() ? place : -9;
    }

    int beside(int post, int other) {
        if (!isPost(post)) return far(-1);
        if (other != -1 && !isPost(other) || other == post) return far(-1);
        Integer was = besides.put(post, other);
        return was == null ? -1 : was;
    }

    int gap(int post, int time, int what) {
        newCall();
        if (!isPost(post)) return far(-1);
        if (what < 0 || what > 3) return far(-2);
        if (time < 0) return far(-4);
        if (time > 9999) return far(-6);
        if (level(post, time, now) != null) return far(-3);
        int s = time;
        int e = time;
        while (s >= 0 && time - s <= 200 && level(post, s, now) == null) s--;
        while (e <= 9999 && e - time <= 200 && level(post, e, now) == null) e++;
        if (s < 0 || e > 9999 || e - s > 200) return far(-5);
        if (level(post, s, now) == null || level(post, e, now) == null) return far(-5);
        int n = besides.getOrDefault(post, -1);
        if (n >= 0 && (level(n, s, now) == null || level(n, e, now) == null || level(n, time, now) == null)) n = -1;
        Standard standard = inForce(1, time / 96, now);
        if (standard != null) {
            int posts = 0;
            for (int p = 0; p < first.size(); p++) posts += level(p, time, now) == null ? 0 : 1;
            Map<Character, Integer> letters = letters(time);
            letters.put('g', e - s);
            letters.put('h', posts);
            letters.put('n', n < 0 ? 99 : n);
            if (!holds(standard.text, letters)) return far(-3);
        }
        if (what == 1) return s;
        if (what == 2) return e;
        if (what == 3) return n < 0 ? 0 : 1;
        int filled = between(post, s, e, time);
        return n < 0 ? filled : filled + level(n, time, now) - between(n, s, e, time);
    }

    private int between(int post, int s, int e, int time) {
        int a = level(post, s, now);
        int b = level(post, e, now);
        return a + (b - a) * (time - s) / (e - s);
    }

    private TreeSet<Integer> timesOf(int post) {
        TreeSet<Integer> times = new TreeSet<>();
        for (Reading x : readings) {
            if (x.post == post) times.add(x.time);
        }
        return times;
    }

    int peak(int post, int from, int to, int k) {
        newCall();
        if (!isPost(post)) return no(-1);
        if (from < 0 || to < 0 || k < 0 || to < from) return no(-4);
        if (from > 9999 || to > 9999 || k > 9999) return no(-6);
        int most = -1;
        for (int time : timesOf(post)) {
            if (time < from || time > to) continue;
            Rated rated = rated(post, time, k);
            if (rated != null) most = Math.max(most, rated.flow);
        }
        return most < 0 ? no(-5) : most;
    }

    int often(int post, int n) {
        newCall();
        if (!isPost(post)) return no(-1);
        if (n < 0) return no(-4);
        if (n > 99999999) return no(-6);
        TreeSet<Integer> years = new TreeSet<>();
        for (int time : timesOf(post)) {
            Rated rated = rated(post, time, now);
            if (rated != null && rated.flow >= n) years.add(time / 1000);
        }
        return years.size();
    }

    int agree(int one, int other, int from, int to, int what) {
        newCall();
        if (!isPost(one) || !isPost(other)) return no(-1);
        if (what < 0 || what > 2) return no(-2);
        if (from < 0 || to < 0 || to < from) return no(-4);
        if (from > 9999 || to > 9999 || to - from + 1 > 300) return no(-6);
        int best = -1;
        long above = 0;
        long below = 1;
        for (int lag = 0; lag <= 20; lag++) {
            long sum = 0;
            long many = 0;
            for (int t = from; t <= to; t++) {
                if (level(one, t, now) == null || level(other, t + lag, now) == null) continue;
                Rated a = rated(one, t, now);
                Rated b = rated(other, t + lag, now);
                if (a == null || b == null) continue;
                sum += Math.abs(a.flow - b.flow);
                many++;
            }
            if (many == 0) continue;
            if (best < 0 || sum * below < above * many) {
                best = lag;
                above = sum;
                below = many;
            }
        }
        if (best < 0) return no(-5);
        java.math.BigInteger common = java.math.BigInteger.valueOf(above).gcd(java.math.BigInteger.valueOf(below));
        return what == 0 ? best : (int) ((what == 1 ? above : below) / common.longValue());
    }

    int next(int post) {
        newCall();
        if (!isPost(post)) return far(-1);
        List<int[]> points = curve(post, 0, 9999, now).points;
        if (points.size() < 2) return far(-5);
        int best = 0;
        long most = -1;
        for (int i = 1; i < points.size(); i++) {
            int lower = points.get(i - 1)[0];
            int upper = points.get(i)[0];
            long many = 0;
            for (int time : timesOf(post)) {
                Integer level = level(post, time, now);
                if (level != null && level > lower && level < upper) many++;
            }
            if (many * (upper - lower) > most) {
                most = many * (upper - lower);
                best = (lower + upper) >> 1;
            }
        }
        return best;
    }

    int publish(int post, int time) {
        newCall();
        if (!isPost(post)) return no(-1);
        if (time < 0) return no(-4);
        if (time > 9999 || publishedOnes.size() == 40) return no(-6);
        Rated rated = rated(post, time, now);
        if (rated == null) return no(-5);
        Standard standard = inForce(2, time / 96, now);
        if (standard != null) {
            Map<Character, Integer> letters = letters(time);
            letters.put('f', rated.flow);
            letters.put('w', rated.wrong);
            letters.put('x', rated.beyond);
            for (Cover c : covers) {
                if (c.post == post && c.from <= time && time <= c.to) letters.put('i', 1);
            }
            if (!holds(standard.text, letters)) return no(-3);
        }
        publishedOnes.add(new Published(post, time, rated.flow));
        return publishedOnes.size() - 1;
    }

    int published(int i, int what) {
        newCall();
        if (i < 0 || i >= publishedOnes.size()) return no(-1);
        if (what < 0 || what > 3) return no(-2);
        Published p = publishedOnes.get(i);
        if (what < 3) return what == 0 ? p.post : what == 1 ? p.time : p.flow;
        Rated rated = rated(p.post, p.time, now);
        return rated == null ? -9 : rated.flow;
    }

    int mend() {
        newCall();
        for (int i = 0; i < publishedOnes.size(); i++) {
            Published p = publishedOnes.get(i);
            Rated rated = rated(p.post, p.time, now);
            if (rated == null || Math.abs((long) rated.flow - p.flow) * 100 > (long) limit * p.flow) return i;
        }
        return -9;
    }

    int limit(int v) {
        if (v < 0) return no(-4);
        if (v > 100) return no(-6);
        int was = limit;
        limit = v;
        return was;
    }

    int count(int what) {
        if (what >= 11 && what <= 16) return refusals[what - 10];
        int[] all = {now, first.size(), zeros.size(), readings.size(), readingStruck.size(), flows.size(),
            standards.size(), publishedOnes.size(), covers.size(), tape.length(), row.size()};
        return what < 0 || what > 10 ? -9 : all[what];
    }
}
