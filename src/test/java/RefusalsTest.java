import java.util.function.Supplier;

/**
 * Each refusal that a promise names: each number with the least and the greatest that is taken and those beyond them,
 * every choice of them together, so that the first refusal in the promise's order is the one that is answered. A call
 * that is refused leaves all as it was and counts one; a call that is taken counts none.
 */
public final class RefusalsTest {
    private static final long LEAST = -2147483648L;
    private static final long MOST = 2147483647L;
    private static final int FINE = 0;
    private static final int NOW = 20;

    /** Numbers for one place of a call, each with the refusal that it asks for, or FINE. */
    private record Place(long[] numbers, int[] codes) { }

    public static void main(String[] args) {
        timeAndPosts();
        heights();
        flows();
        texts();
        curves();
        covers();
        bed();
        gaps();
        floods();
        publishing();
        full();
        fullOfMore();
        nothing();
        Gauge.end();
    }

    /** Two POSTS at 20 with something of everything, so that a change of anything would be seen. */
    private static Gauge scene(String title) {
        Gauge x = new Gauge(title);
        x.due(0, "post", 5).due(1, "post", -7).due(NOW, "go", NOW);
        x.due(0, "height", 0, 1, 0, 100).due(1, "height", 0, 2, 0, 200).due(2, "height", 0, 3, 1, 300);
        x.due(3, "height", 0, 9, 0, -1).due(4, "height", 1, 1, 0, 50).due(5, "height", 1, 3, 0, 70);
        x.due(6, "height", 1, 2, 0, 75).due(7, "height", 0, 15, 0, 400).due(1, "strike", 5);
        x.due(0, "measure", 0, 1, 50, 5).due(1, "measure", 0, 2, 150, 10).due(2, "measure", 0, 3, 450, 7);
        x.due(3, "measure", 1, 1, 9, 0).due(1, "drop", 1).due(1, "moved", 1, 3, 2);
        x.due(1, "under", 0, 0, 3, 4, 10).due(2, "under", 0, 1, 1, 5, 20).due(1, "stretch", 0, 10);
        x.due(-2000, "low", 0, 20).due(-1, "beside", 0, 1).due(1, "base", 0, 0, 0, 0).due(2, "base", 0, 1, 1000, 1000);
        x.standard("r>500", 0, 0).standard("f>0", 2, 0).feed("a>").due(1, "put", 0).due(2, "put", 1);
        return x.due(0, "publish", 0, 1).due(5, "limit", 7);
    }

    private static Place place(long... pairs) {
        long[] numbers = new long[pairs.length / 2];
        int[] codes = new int[pairs.length / 2];
        for (int i = 0; i < numbers.length; i++) {
            numbers[i] = pairs[2 * i];
            codes[i] = (int) pairs[2 * i + 1];
        }
        return new Place(numbers, codes);
    }

    /** Numbers from least to most are taken; below there is one refusal, above another. */
    private static Place from(long least, long most, int below, int above) {
        return place(least, FINE, most, FINE, least - 1, below, LEAST, below, most + 1, above, MOST, above);
    }

    private static Place numbered(int many) {
        return from(0, many - 1, -1, -1);
    }

    private static Place what(int most) {
        return from(0, most, -2, -2);
    }

    private static Place time() {
        return from(0, 9999, -4, -6);
    }

    /** Every choice of one number for each place; rest is what the call is refused with if all are taken. */
    private static void all(Supplier<Gauge> scene, String order, int rest, String name, Place... places) {
        int choices = 1;
        for (Place one : places) choices *= one.numbers.length;
        for (int choice = 0; choice < choices; choice++) {
            long[] a = new long[places.length];
            boolean[] codes = new boolean[7];
            codes[-rest] = true;
            int left = choice;
            for (int i = 0; i < a.length; i++) {
                int at = left % places[i].numbers.length;
                left /= places[i].numbers.length;
                a[i] = places[i].numbers[at];
                codes[-places[i].codes[at]] = true;
            }
            int first = FINE;
            for (int i = 0; i < order.length() && first == FINE; i++) {
                if (codes[order.charAt(i) - '0']) first = '0' - order.charAt(i);
            }
            if (first == FINE) scene.get().taken(name, a);
            else scene.get().refused(first, name, a);
        }
    }

    private static Supplier<Gauge> scenes(String title) {
        return () -> scene(title);
    }

    private static void timeAndPosts() {
        all(scenes("promise 2, go"), "46", FINE, "go", from(1, 9979, -4, -6));
        all(() -> new Gauge("promise 2, go from 0"), "46", FINE, "go", from(1, 9999, -4, -6));
        all(() -> scene("promise 2, go at the end").due(9999, "go", 9979), "46", -6, "go", place(1, FINE, 0, -4, 2, -6));
        all(scenes("promise 3, post"), "46", FINE, "post", from(-999, 999, -4, -6));
        all(scenes("promise 4, moved"), "146", FINE, "moved", numbered(2), from(-999, 999, -4, -6), from(0, NOW, -4, -6));
        all(scenes("promise 5, zeroAt"), "146", FINE, "zeroAt", numbered(2), time(), time());
    }

    private static void heights() {
        Supplier<Gauge> scene = scenes("promise 6, height");
        Place pens = place(0, FINE, -1, -2, LEAST, -2, 2, -2, MOST, -2);
        Place hands = place(1, FINE, -1, -2, 2, -2);
        all(scene, "1246", FINE, "height", numbered(2), from(0, NOW, -4, -6), pens, from(-1, 9999, -4, -6));
        all(scene, "1246", FINE, "height", numbered(2), from(0, NOW, -4, -6), hands, from(0, 9999, -4, -6));
        all(scenes("promise 7, strike"), "13", FINE, "strike", place(0, FINE, 7, FINE, -1, -1, LEAST, -1, 8, -1, MOST, -1));
        all(scenes("promise 7, strike what is STUCK or told so"), "13", -3, "strike", place(3, -3, 5, -3));
        all(scenes("promise 8, isStruck"), "146", FINE, "isStruck", numbered(8), time());
        Place there = place(0, FINE, -1, -1, LEAST, -1, 2, -1, MOST, -1);
        Place when = place(1, FINE, -1, -4, LEAST, -4, 10000, -6, MOST, -6);
        Place known = place(NOW, FINE, 9999, FINE, -1, -4, LEAST, -4, 10000, -6, MOST, -6);
        all(scenes("promise 9, heightAt"), "1465", FINE, "heightAt", there, when, known);
        Place whenNone = place(0, FINE, 9, FINE, 9999, FINE, -1, -4, 10000, -6);
        Place unknown = place(0, FINE, NOW - 1, FINE, -1, -4, 10000, -6);
        all(scenes("promise 9, heightAt without one there"), "1465", -5, "heightAt", there, whenNone, known);
        all(scenes("promise 9, heightAt without one yet"), "1465", -5, "heightAt", there, when, unknown);
    }

    private static void flows() {
        Place flow = from(0, 99999, -4, -6);
        Place wrong = from(0, 99, -4, -6);
        all(scenes("promise 10, measure"), "146", FINE, "measure", numbered(2), from(0, NOW, -4, -6), flow, wrong);
        all(scenes("promise 11, drop"), "13", FINE, "drop", place(0, FINE, 3, FINE, -1, -1, LEAST, -1, 4, -1, MOST, -1));
        all(scenes("promise 11, drop what is dropped"), "13", -3, "drop", place(1, -3));
        all(scenes("promise 12, counts"), "146", FINE, "counts", numbered(4), time());
    }

    private static void texts() {
        Place bytes = place(0, FINE, -1, FINE, Long.MIN_VALUE, FINE, Long.MAX_VALUE, FINE);
        all(scenes("promise 13, feed"), "46", FINE, "feed", from(1, 8, -4, -6), bytes);
        all(() -> taped("promise 13, feed up to 60", 52), "46", FINE, "feed", from(1, 8, -4, -6), bytes);
        all(() -> taped("promise 13, feed beyond 60", 53), "46", FINE, "feed", from(1, 7, -4, -6), bytes);
        all(() -> taped("promise 13, feed the last", 59), "46", FINE, "feed",
            place(1, FINE, 0, -4, 2, -6, 8, -6, 9, -6), bytes);
        all(() -> taped("promise 13, feed what is full", 60), "46", -6, "feed", from(1, 8, -4, -6), bytes);
        // Day 2 begins at 192: what is on THE TAPE has a FAULT at its end, so that a call that is let through is seen.
        Supplier<Gauge> day1 = () -> scene("promise 14, standard at 191").due(191, "go", 171).feed("1");
        Supplier<Gauge> day2 = () -> scene("promise 14, standard at 192").due(192, "go", 172).feed("1");
        all(day1, "246", FINE, "standard", what(2), from(1, 200, -4, -6));
        all(day2, "246", FINE, "standard", what(2), from(2, 200, -4, -6));
        all(() -> new Gauge("promise 14, standard at 0")
            .feed("1=1"), "246", FINE, "standard", what(2), from(0, 200, -4, -6));
        all(() -> scene("promise 14, standard at 9999").due(9999, "go", 9979).feed("1"), "246", FINE, "standard", what(2),
            from(104, 200, -4, -6));
    }

    private static Gauge taped(String title, int many) {
        Gauge x = new Gauge(title);
        for (int i = 8; i <= many; i += 8) x.due(i, "feed", 8, 0x3131313131313131L);
        return many % 8 == 0 ? x : x.due(many, "feed", many % 8, 0x3131313131313131L);
    }

    private static void curves() {
        all(scenes("promise 15, low"), "146", FINE, "low", numbered(2), from(-2000, 9999, -4, -6));
        Place first = place(0, FINE, -1, -1, LEAST, -1, 2, -1, MOST, -1);
        all(scenes("promise 16, stretch"), "1346", FINE, "stretch", numbered(2), time());
        all(scenes("promise 16, stretch where one begins"), "1346", FINE, "stretch", first,
            place(9, FINE, 10, -3, 11, FINE));
        all(scenes("promise 16, stretch where the other's begins"), "1346", FINE, "stretch", place(1, FINE, 2, -1), time());
        all(scenes("promise 17, points"), "146", FINE, "points", numbered(2), time(), time());
        // Post 0 has two POINTS from 0 to 9, none from 10 on.
        Place when = place(0, FINE, 9, FINE, -1, -4, LEAST, -4, 10000, -6, MOST, -6);
        Place known = place(NOW, FINE, 9999, FINE, -1, -4, LEAST, -4, 10000, -6, MOST, -6);
        Place points = place(0, FINE, 1, FINE, -1, -5, LEAST, -5, 2, -5, MOST, -5);
        all(scenes("promise 18, point"), "12465", FINE, "point", first, when, known, points, what(1));
        Place later = place(10, FINE, 9999, FINE, -1, -4, 10000, -6);
        all(scenes("promise 18, point of no CURVE"), "12465", -5, "point", first, later, known, points, what(1));
        Place height = from(-9999, 99999, -4, -6);
        all(scenes("promise 19, flowAt"), "1465", FINE, "flowAt", first, when, height);
        all(scenes("promise 19, flowAt by no CURVE"), "1465", -5, "flowAt", first, later, height);
    }

    private static void covers() {
        Place first = place(0, FINE, 1, FINE, -1, -1, LEAST, -1, 2, -1, MOST, -1);
        Place kind = place(0, FINE, 1, FINE, -1, -2, LEAST, -2, 2, -2, MOST, -2);
        Place n = from(0, 99, -4, -6);
        Supplier<Gauge> scene = scenes("promise 20, under");
        all(scene, "1246", FINE, "under", first, kind, place(0, FINE, -1, -4, LEAST, -4), time(), n);
        Place from9999 = place(9999, FINE, -1, -4);
        all(scene, "1246", FINE, "under", first, kind, from9999,
            place(9999, FINE, 10000, -6, MOST, -6, 9998, -4, 0, -4, -1, -4), n);
        all(scene, "1246", FINE, "under", first, kind, place(10000, -6), place(10000, -6, 9999, -4), n);
        all(scene, "1246", FINE, "under", first, kind, place(MOST, -6), place(MOST, -6, MOST - 1, -4), n);
        Place when = place(1, FINE, 3, FINE, -1, -4, LEAST, -4, 10000, -6, MOST, -6);
        Place known = place(NOW, FINE, 9999, FINE, -1, -4, 10000, -6);
        Place one = place(0, FINE, -1, -1, 2, -1);
        all(scenes("promise 21, flowOf"), "12465", FINE, "flowOf", one, when, known, what(2));
        Place none = place(0, FINE, 9, FINE, 9999, FINE, -1, -4, 10000, -6);
        all(scenes("promise 21, flowOf without a HEIGHT"), "12465", -5, "flowOf", one, none, known, what(2));
        Place early = place(0, FINE, NOW - 1, FINE, -1, -4, 10000, -6);
        all(scenes("promise 21, flowOf before it is known"), "12465", -5, "flowOf", one, when, early, what(2));
        Place noCurve = place(15, FINE, -1, -4, 10000, -6);
        all(scenes("promise 21, flowOf without a CURVE"), "12465", -5, "flowOf", one, noCurve, known, what(2));
    }

    private static void bed() {
        Place post = place(0, FINE, -1, -1, LEAST, -1, 2, -1, MOST, -1);
        Place flow = from(0, 99999, -4, -6);
        Place height = from(-9999, 99999, -4, -6);
        // The base of POST 0 has 0 -> 0 and 1000 -> 1000.
        all(scenes("promise 22, base, the first"), "146", FINE, "base", post, place(0, FINE), height, flow);
        Place second = place(1, FINE, -1, -1, LEAST, -1, 3, -1, 8, -1, MOST, -1);
        Place aboveFirst = place(1, FINE, 99999, FINE, 0, -4, -9999, -4, -10000, -4, LEAST, -4, 100000, -6, MOST, -6);
        all(scenes("promise 22, base, the second"), "146", FINE, "base", post, second, aboveFirst, flow);
        Place aboveSecond = place(1001, FINE, 99999, FINE, 1000, -4, 0, -4, -10000, -4, 100000, -6);
        Place flowSecond = place(1000, FINE, 99999, FINE, 999, -4, -1, -4, LEAST, -4, 100000, -6, MOST, -6);
        all(scenes("promise 22, base, the third"), "146", FINE, "base", post,
            place(2, FINE, 3, -1), aboveSecond, flowSecond);
        Place empty = place(0, FINE, 1, -1, -1, -1, LEAST, -1, MOST, -1);
        all(scenes("promise 22, base of none"), "146", FINE, "base", place(1, FINE, 2, -1), empty, height, flow);
        all(scenes("promise 23, breaks"), "125", FINE, "breaks", post, what(3));
        all(scenes("promise 23, breaks without a base"), "125", -5, "breaks", place(1, FINE, 2, -1), what(3));
        Supplier<Gauge> noFlows = () -> scene("IV, a base without FLOWS").due(1, "base", 1, 0, 0, 0).due(1, "drop", 3);
        all(noFlows, "125", -5, "breaks", place(1, FINE, 2, -1), what(3));
        // The first FLOW lets 48 .. 52, and lies at 105: it would need a SHIFT of -53, so that none goes.
        all(scenes("promise 24, shift by none"), "153", -3, "shift", post, place(0, FINE, 1, FINE, -1, FINE, MOST, FINE));
        all(scenes("promise 24, shift without a base"), "153", -5, "shift", place(1, FINE, 2, -1), place(0, FINE, -1, FINE));
        all(noFlows, "153", -5, "shift", place(1, FINE, 2, -1), place(0, FINE, -1, FINE));
        Supplier<Gauge> goes = () -> scene("promise 24, shift").due(1, "base", 0, 0, 105, 50).due(2, "base", 0, 1, 305, 450);
        all(goes, "1", FINE, "shift", post, place(0, FINE, -1, -1, LEAST, -1, 1, -1, MOST, -1));
        all(scenes("promise 25, put"), "46", FINE, "put", from(-128, 127, -4, -6));
        all(scenes("promise 26, judge"), "15", FINE, "judge", post);
        all(scenes("promise 26, judge without a base"), "15", -5, "judge", place(1, FINE, 2, -1));
        all(noFlows, "15", -5, "judge", place(1, FINE, 2, -1));
    }

    private static void gaps() {
        Place other = place(-1, FINE, 1, FINE, 0, -1, -2, -1, LEAST, -1, 2, -1, MOST, -1);
        all(scenes("promise 27, beside"), "1", FINE, "beside", place(0, FINE, -1, -1, LEAST, -1, 2, -1, MOST, -1), other);
        all(scenes("promise 27, beside the first"), "1", FINE, "beside", place(1, FINE),
            place(-1, FINE, 0, FINE, 1, -1, 2, -1));
        Place post = place(0, FINE, -1, -1, LEAST, -1, 2, -1, MOST, -1);
        Place gap = place(4, FINE, 14, FINE, -1, -4, LEAST, -4, 10000, -6, MOST, -6);
        all(scenes("promise 28, gap"), "1246", FINE, "gap", post, gap, what(3));
        Place height = place(1, FINE, 15, FINE, -1, -4, 10000, -6);
        all(scenes("promise 28, gap where it is none"), "12463", -3, "gap", post, height, what(3));
        Place noEnds = place(0, FINE, 16, FINE, 9999, FINE, -1, -4, LEAST, -4, 10000, -6, MOST, -6);
        all(scenes("promise 28, gap without ends"), "12465", -5, "gap", post, noEnds, what(3));
        Supplier<Gauge> closed = () -> scene("promise 28, gap that FILL does not let").due(-22, "standard", 1, 0)
            .standard("1=2", 1, 0);
        all(closed, "1246", FINE, "gap", post, place(-1, -4, 10000, -6), what(3));
        all(closed, "12463", -3, "gap", post, gap, what(3));
        all(closed, "12463", -3, "gap", post, height, what(3));
        all(closed, "12465", -5, "gap", post, noEnds, what(3));
    }

    private static void floods() {
        Place post = place(0, FINE, -1, -1, LEAST, -1, 2, -1, MOST, -1);
        Place known = place(NOW, FINE, 9999, FINE, -1, -4, LEAST, -4, 10000, -6, MOST, -6);
        Place to = place(3, FINE, 9999, FINE, 10000, -6, MOST, -6);
        Supplier<Gauge> scene = scenes("promise 29, peak");
        all(scene, "1465", FINE, "peak", post, place(0, FINE, 3, FINE, -1, -4, LEAST, -4), to, known);
        all(scene, "1465", -4, "peak", post, place(4, FINE), place(3, FINE, 0, FINE, -1, FINE, LEAST, FINE), known);
        all(scene, "1465", FINE, "peak", post, place(10000, -6), place(10000, -6, 9999, -4, MOST, -6), known);
        all(scene, "1465", -5, "peak", post, place(4, FINE, -1, -4), place(9999, FINE, 4, FINE, 10000, -6), known);
        all(scene, "1465", -5, "peak", post, place(0, FINE), place(9999, FINE, 10000, -6), place(NOW - 1, FINE, -1, -4));
        all(scenes("promise 30, often"), "146", FINE, "often", numbered(2), from(0, 99999999, -4, -6));
        Place one = place(0, FINE, 1, FINE, -1, -1, LEAST, -1, 2, -1, MOST, -1);
        Place span = place(299, FINE, 1, FINE, 300, -6, 10000, -6, MOST, -6);
        Supplier<Gauge> agree = scenes("promise 31, agree");
        all(agree, "12465", FINE, "agree", one, one, place(0, FINE, 1, FINE, -1, -4, LEAST, -4),
            place(1, FINE, 299, FINE, 10000, -6, MOST, -6), what(2));
        all(agree, "12465", FINE, "agree", one, one, place(0, FINE), span, what(2));
        all(agree, "12465", FINE, "agree", one, one, place(1, FINE),
            place(300, FINE, 301, -6, 0, -4, -1, -4, LEAST, -4), what(2));
        Place late = place(9999, FINE, 10000, -6, 9998, -4);
        all(agree, "12465", -5, "agree", one, one, place(9999, FINE), late, what(2));
        all(agree, "12465", -5, "agree", one, one, place(9700, FINE), place(9999, FINE, 10000, -6, 9699, -4), what(2));
        all(agree, "12465", -6, "agree", one, one, place(10000, FINE, MOST, FINE), place(MOST, FINE, 9999, -4), what(2));
        all(scenes("promise 32, next"), "15", FINE, "next", post);
        all(scenes("promise 32, next of one POINT"), "15", -5, "next", place(1, FINE, 2, -1));
    }

    private static void publishing() {
        Place post = place(0, FINE, -1, -1, LEAST, -1, 2, -1, MOST, -1);
        Place when = place(1, FINE, 3, FINE, -1, -4, LEAST, -4, 10000, -6, MOST, -6);
        all(scenes("promise 33, publish"), "1465", FINE, "publish", post, when);
        Place none = place(0, FINE, 9, FINE, 15, FINE, 9999, FINE, -1, -4, 10000, -6);
        all(scenes("promise 33, publish without a FLOW"), "1465", -5, "publish", post, none);
        Supplier<Gauge> closed = () -> scene("promise 33, PUBLISH does not let").due(-22, "standard", 1, 0)
            .standard("1=2", 2, 0);
        all(closed, "14653", -3, "publish", post, when);
        all(closed, "14653", -5, "publish", post, none);
        Supplier<Gauge> two = () -> scene("promise 34, published").due(1, "publish", 0, 3);
        all(two, "12", FINE, "published", numbered(2), what(3));
        all(scenes("promise 36, limit"), "46", FINE, "limit", from(0, 100, -4, -6));
        Place counted = place(0, FINE, 16, FINE, -1, FINE, 17, FINE, LEAST, FINE, MOST, FINE);
        all(scenes("promise 37, count refuses none"), "", FINE, "count", counted);
    }

    /** The last that still has room, and the first that has none: of what stands in the Terms. */
    private static void full() {
        Supplier<Gauge> posts = () -> {
            Gauge x = new Gauge("promise 3, a seventh POST");
            for (int i = 0; i < 6; i++) x.due(i, "post", i);
            return x;
        };
        all(posts, "46", -6, "post", from(-999, 999, -4, -6));
        Supplier<Gauge> zeros = () -> {
            Gauge x = scene("promise 4, a ZERO beyond 60");
            for (int i = 2; i <= 60; i++) x.due(i, "moved", i % 2, i, i % 21);
            return x;
        };
        all(zeros, "146", -6, "moved", numbered(2), from(-999, 999, -4, -6), from(0, NOW, -4, -6));
        Supplier<Gauge> heights = () -> {
            Gauge x = scene("promise 6, a HEIGHT beyond 300");
            for (int i = 8; i < 300; i++) x.due(i, "height", i % 2, i % 21, i % 3 == 0 ? 1 : 0, i % 3 == 1 ? -1 : i);
            return x;
        };
        Place few = place(0, FINE, 1, FINE, -1, -1, 2, -1);
        Place when = place(NOW, FINE, -1, -4, NOW + 1, -6);
        all(heights, "1246", -6, "height", few, when, place(0, FINE, 2, -2), place(-1, FINE, 9999, FINE, -2, -4, 10000, -6));
        all(heights, "1246", -6, "height", few, when, place(1, FINE, -1, -2), place(0, FINE, -1, -4, 10000, -6));
        Supplier<Gauge> flows = () -> {
            Gauge x = scene("promise 10, a FLOW beyond 60");
            for (int i = 4; i < 60; i++) x.due(i, "measure", i % 2, i % 21, i, i % 100).due(1, "drop", i);
            return x;
        };
        all(flows, "146", -6, "measure", few, when, place(0, FINE, -1, -4, 100000, -6), place(99, FINE, -1, -4, 100, -6));
        Supplier<Gauge> standards = () -> {
            Gauge x = scene("promise 14, a STANDARD beyond 20").due(-22, "standard", 0, 200);
            for (int i = 2; i < 20; i++) x.standard("1=2", i % 3, i);
            return x.feed("1");
        };
        all(standards, "246", -6, "standard", what(2), from(0, 200, -4, -6));
    }

    private static void fullOfMore() {
        Place few = place(0, FINE, -1, -1, 2, -1);
        Supplier<Gauge> stretches = () -> {
            Gauge x = scene("promise 16, a STRETCH beyond 8");
            for (int i = 2; i <= 8; i++) x.due(i, "stretch", 0, 9 + i);
            return x;
        };
        Place begins = place(0, FINE, 18, FINE, 9999, FINE, 10, -3, 17, -3, -1, -4, LEAST, -4, 10000, -6, MOST, -6);
        all(stretches, "1346", -6, "stretch", few, begins);
        all(stretches, "1346", FINE, "stretch", place(1, FINE, 2, -1), time());
        Supplier<Gauge> covers = () -> {
            Gauge x = scene("promise 20, ICE and WEED beyond 40");
            for (int i = 3; i <= 40; i++) x.due(i, "under", i % 2, i / 2 % 2, i, 2 * i, i);
            return x;
        };
        Place from = place(0, FINE, -1, -4);
        all(covers, "1246", -6, "under", few, place(0, FINE, 1, FINE, 2, -2), from,
            place(0, FINE, 9999, FINE, 10000, -6), place(0, FINE, -1, -4, 100, -6));
        Supplier<Gauge> base = () -> {
            Gauge x = scene("promise 22, a POINT beyond 8");
            for (int i = 2; i < 8; i++) x.due(i + 1, "base", 0, i, 1000 + i, 1000 + i);
            return x;
        };
        Place last = place(8, -6, 9, -1, -1, -1, MOST, -1);
        Place height = place(1008, FINE, 99999, FINE, 1007, -4, LEAST, -4, 100000, -6);
        all(base, "146", FINE, "base", few, last, height, place(1007, FINE, 99999, FINE, 1006, -4, 100000, -6));
        Place lower = place(1007, FINE, 99999, FINE, 1006, -4, LEAST, -4, 100000, -6);
        all(base, "146", FINE, "base", few, place(7, FINE), lower, place(1006, FINE, 1005, -4, 100000, -6));
        Supplier<Gauge> row = () -> {
            Gauge x = scene("promise 25, a byte beyond 12");
            for (int i = 3; i <= 12; i++) x.due(i, "put", i);
            return x;
        };
        all(row, "46", -6, "put", from(-128, 127, -4, -6));
        Supplier<Gauge> published = () -> {
            Gauge x = scene("promise 33, PUBLISHED beyond 40");
            for (int i = 1; i < 40; i++) x.due(i, "publish", 0, 1 + 2 * (i % 2));
            return x;
        };
        Place when = place(1, FINE, 3, FINE, 0, FINE, 9999, FINE, -1, -4, LEAST, -4, 10000, -6, MOST, -6);
        all(published, "1465", -6, "publish", few, when);
        Supplier<Gauge> closed = () -> published.get().due(-22, "standard", 1, 0).standard("1=2", 2, 0);
        all(closed, "14653", -6, "publish", few, when);
        all(published, "12", FINE, "published", numbered(40), what(3));
    }

    /** Where there is nothing yet, all that is numbered is nobody. */
    private static void nothing() {
        Supplier<Gauge> fresh = () -> new Gauge("promise 1, a new object has nobody");
        Place nobody = place(0, -1, 1, -1, -1, -1, LEAST, -1, MOST, -1);
        Place any = place(0, FINE, LEAST, FINE, MOST, FINE);
        String[] names = {"strike", "drop", "judge", "next"};
        for (String name : names) all(fresh, "1", -1, name, nobody);
        String[] ofTwo = {"isStruck", "counts", "low", "stretch", "breaks", "shift", "beside", "often", "publish", "published"};
        for (String name : ofTwo) all(fresh, "1", -1, name, nobody, any);
        String[] ofThree = {"moved", "zeroAt", "heightAt", "points", "flowAt", "gap"};
        for (String name : ofThree) all(fresh, "1", -1, name, nobody, any, any);
        String[] ofFour = {"height", "measure", "flowOf", "base", "peak"};
        for (String name : ofFour) all(fresh, "1", -1, name, nobody, any, any, any);
        String[] ofFive = {"point", "under", "agree"};
        for (String name : ofFive) all(fresh, "1", -1, name, nobody, any, any, any, any);
        all(fresh, "1", -1, "beside", nobody, place(-1, FINE));
        all(fresh, "2", FINE, "mend");
    }
}
