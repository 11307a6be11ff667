/** Rivers gauged: README.md says how it is used, ../shared/DOC.md what it promises. */
public final class RiverGauge {
    private static final int NOBODY = -1;
    private static final int OTHER = -2;
    private static final int STATE = -3;
    private static final int BELOW = -4;
    private static final int MISSING = -5;
    private static final int ROOM = -6;
    private static final int NONE = -9;
    private static final int FINE = 0;
    private static final int AS_TOLD = 1000000000;
    private static final int FAULTS = -20;

    private static final int LAST_TIME = 9999;
    private static final int LAST_DAY = 200;
    private static final int DAY = 96;
    private static final int YEAR = 1000;
    private static final int NEVER = 2147483647;

    private static final int POSTS = 6;
    private static final int ZEROS = 60;
    private static final int HEIGHTS = 300;
    private static final int FLOWS = 60;
    private static final int STANDARDS = 20;
    private static final int TEXT = 60;
    private static final int STRETCHES = 8;
    private static final int COVERS = 40;
    private static final int BASE = 8;
    private static final int PUBLISHED = 40;
    private static final int ROW = 12;
    private static final int LAGS = 20;
    private static final int AGREE_TIMES = 300;
    private static final int GAP_TIMES = 200;
    private static final int LAST_SHIFT = 50;

    private static final int ZERO_END = 999;
    private static final int LAST_READ = 9999;
    private static final int LAST_FLOW = 99999;
    private static final int LAST_FLOW_OF = 99999999;
    private static final int LAST_WRONG = 99;
    private static final int FIRST_LOW = -2000;
    private static final int LAST_LOW = 9999;
    private static final int FIRST_LEVEL = -9999;
    private static final int LAST_LEVEL = 99999;

    private static final int STRIKE = 0;
    private static final int FILL = 1;
    private static final int PUBLISH = 2;
    private static final int HAND = 1;
    private static final int ICE = 0;
    private static final int WEED = 1;

    private static final String LETTERS = "dmrkabghnfwxi";
    private static final int LETTER_D = 0;
    private static final int LETTER_M = 1;
    private static final int LETTER_R = 2;
    private static final int LETTER_K = 3;
    private static final int LETTER_A = 4;
    private static final int LETTER_B = 5;
    private static final int LETTER_G = 6;
    private static final int LETTER_H = 7;
    private static final int LETTER_N = 8;
    private static final int LETTER_F = 9;
    private static final int LETTER_W = 10;
    private static final int LETTER_X = 11;
    private static final int LETTER_I = 12;
    private static final int LETTER_COUNT = 13;
    private static final int NO_NEIGHBOUR_LETTER = 99;
    private static final int NOTHING_AHEAD_LETTER = 9999;

    // Steps of a TEXT made ready: numbers stand as they are, letters as -1 less
    // their place in LETTERS, all else below these.
    private static final int STEP_NOT = -20;
    private static final int STEP_AND = -21;
    private static final int STEP_OR = -22;
    private static final int STEP_LESS = -23;
    private static final int STEP_SAME = -24;
    private static final int STEP_MORE = -25;
    private static final int STEP_PLUS = -26;
    private static final int STEP_MINUS = -27;
    private static final int STEP_TIMES = -28;

    private final int[] refusals = new int[6];
    private final Posts posts = new Posts();
    private final Heights heights = new Heights();
    private final Flows flows = new Flows();
    private final Covers covers = new Covers();
    private final Tape tape = new Tape();
    private final Standards standards = new Standards();
    private final View view = new View(posts, heights, standards);
    private final Rating rating = new Rating(posts, flows, covers, view);
    private final Breaks bed = new Breaks(flows, view);
    private final Gaps gaps = new Gaps(posts, view);
    private final int[] publishedPost = new int[PUBLISHED];
    private final int[] publishedTime = new int[PUBLISHED];
    private final int[] publishedFlow = new int[PUBLISHED];
    private int publishedMany = 0;
    private int mendLimit = 5;
    private int now = 0;

    public RiverGauge() {
    }

    public int go(int n) {
        if (n < 1) return refuse(BELOW);
        if (n > LAST_TIME - now) return refuse(ROOM);
        now += n;
        return now;
    }

    public int post(int zero) {
        if (zero < -ZERO_END) return refuse(BELOW);
        if (zero > ZERO_END || posts.many >= POSTS) return refuse(ROOM);
        return posts.come(zero);
    }

    public int moved(int post, int zero, int from) {
        if (!posts.has(post)) return refuse(NOBODY);
        if (zero < -ZERO_END || from < 0) return refuse(BELOW);
        if (zero > ZERO_END || from > now || posts.zeros >= ZEROS) return refuse(ROOM);
        view.forget();
        return posts.move(post, zero, from, now);
    }

    public int zeroAt(int post, int time, int k) {
        int why = whyNotAt(post, time, k);
        if (why != FINE) return refuseAsTold(why);
        return posts.zeroOf(post, time, k);
    }

    public int height(int post, int time, int kind, int read) {
        if (!posts.has(post)) return refuse(NOBODY);
        if (kind < 0 || kind > HAND) return refuse(OTHER);
        if (time < 0 || read < (kind == HAND ? 0 : -1)) return refuse(BELOW);
        if (time > now || read > LAST_READ || heights.many >= HEIGHTS) return refuse(ROOM);
        view.forget();
        return heights.come(post, time, kind, read, now);
    }

    public int strike(int height) {
        if (!heights.has(height)) return refuse(NOBODY);
        if (heights.struck[height] != NEVER || heights.isStuck(height)) return refuse(STATE);
        view.forget();
        heights.struck[height] = now;
        heights.struckMany++;
        return 1;
    }

    public int isStruck(int height, int k) {
        if (!heights.has(height)) return refuse(NOBODY);
        int why = whyNotTime(k);
        if (why != FINE) return refuse(why);
        view.see(k);
        return view.mark[height];
    }

    public int heightAt(int post, int time, int k) {
        int why = whyNotAt(post, time, k);
        if (why != FINE) return refuseAsTold(why);
        view.see(k);
        int at = view.find(post, time);
        if (at < 0) return refuseAsTold(MISSING);
        return view.level[at];
    }

    public int measure(int post, int time, int flow, int wrong) {
        if (!posts.has(post)) return refuse(NOBODY);
        if (time < 0 || flow < 0 || wrong < 0) return refuse(BELOW);
        if (time > now || flow > LAST_FLOW || wrong > LAST_WRONG) return refuse(ROOM);
        if (flows.many >= FLOWS) return refuse(ROOM);
        view.forget();
        return flows.come(post, time, flow, wrong, now);
    }

    public int drop(int flow) {
        if (!flows.has(flow)) return refuse(NOBODY);
        if (flows.struck[flow] != NEVER) return refuse(STATE);
        view.forget();
        flows.struck[flow] = now;
        return 1;
    }

    public int counts(int flow, int k) {
        if (!flows.has(flow)) return refuse(NOBODY);
        int why = whyNotTime(k);
        if (why != FINE) return refuse(why);
        view.see(k);
        return flows.placeOf(flow, view) >= 0 ? 1 : 0;
    }

    public int feed(int n, long bytes) {
        if (n < 1) return refuse(BELOW);
        if (n > 8 || n > TEXT - tape.length) return refuse(ROOM);
        return tape.take(n, bytes);
    }

    public int standard(int purpose, int day) {
        if (purpose < STRIKE || purpose > PUBLISH) return refuse(OTHER);
        if (day < now / DAY) return refuse(BELOW);
        if (day > LAST_DAY || standards.many >= STANDARDS) return refuse(ROOM);
        int fault = tape.fault();
        tape.length = 0;
        if (fault >= 0) return FAULTS - fault;
        view.forget();
        return standards.come(purpose, day, now, tape);
    }

    public int low(int post, int v) {
        if (!posts.has(post)) return refuseAsTold(NOBODY);
        if (v < FIRST_LOW) return refuseAsTold(BELOW);
        if (v > LAST_LOW) return refuseAsTold(ROOM);
        int was = posts.low[post];
        posts.low[post] = v;
        return was;
    }

    public int stretch(int post, int from) {
        if (!posts.has(post)) return refuse(NOBODY);
        if (posts.beginsAt(post, from)) return refuse(STATE);
        int why = whyNotTime(from);
        if (why != FINE) return refuse(why);
        if (posts.stretches[post] >= STRETCHES) return refuse(ROOM);
        return posts.begin(post, from);
    }

    public int points(int post, int time, int k) {
        int why = whyNotAt(post, time, k);
        if (why != FINE) return refuse(why);
        view.see(k);
        rating.drawAt(post, time);
        return rating.curve.many;
    }

    public int point(int post, int time, int k, int i, int what) {
        if (!posts.has(post)) return refuseAsTold(NOBODY);
        if (what < 0 || what > 1) return refuseAsTold(OTHER);
        int why = whyNotAt(post, time, k);
        if (why != FINE) return refuseAsTold(why);
        view.see(k);
        rating.drawAt(post, time);
        if (i < 0 || i >= rating.curve.many) return refuseAsTold(MISSING);
        return what == 0 ? rating.curve.height[i] : rating.curve.flow[i];
    }

    public int flowAt(int post, int time, int height) {
        if (!posts.has(post)) return refuse(NOBODY);
        if (time < 0 || height < FIRST_LEVEL) return refuse(BELOW);
        if (time > LAST_TIME || height > LAST_LEVEL) return refuse(ROOM);
        view.see(now);
        rating.drawAt(post, time);
        int flow = rating.curve.flowBy(height, posts.low[post]);
        return flow < 0 ? refuse(MISSING) : flow;
    }

    public int under(int post, int kind, int from, int to, int n) {
        if (!posts.has(post)) return refuse(NOBODY);
        if (kind < ICE || kind > WEED) return refuse(OTHER);
        if (from < 0 || to < from || n < 0) return refuse(BELOW);
        if (to > LAST_TIME || n > LAST_WRONG || covers.many >= COVERS) return refuse(ROOM);
        return covers.come(post, kind, from, to, n, now);
    }

    public int flowOf(int post, int time, int k, int what) {
        if (!posts.has(post)) return refuse(NOBODY);
        if (what < 0 || what > 2) return refuse(OTHER);
        int why = whyNotAt(post, time, k);
        if (why != FINE) return refuse(why);
        view.see(k);
        int at = view.find(post, time);
        int flow = rating.rate(at);
        if (flow < 0) return refuse(MISSING);
        if (what == 0) return flow;
        return what == 1 ? rating.howWrong(at) : rating.beyond(at);
    }

    public int base(int post, int i, int height, int flow) {
        if (!posts.has(post)) return refuse(NOBODY);
        Points base = bed.bases[post];
        if (i < 0 || i > base.many) return refuse(NOBODY);
        if (height < FIRST_LEVEL || flow < 0 || base.falls(i, height, flow)) return refuse(BELOW);
        if (height > LAST_LEVEL || flow > LAST_FLOW || i >= BASE) return refuse(ROOM);
        return base.putAt(i, height, flow);
    }

    public int breaks(int post, int what) {
        if (!posts.has(post)) return refuse(NOBODY);
        if (what < 0 || what > 3) return refuse(OTHER);
        view.see(now);
        if (!bed.gather(post)) return refuse(MISSING);
        if (what == 3) return bed.picks;
        if (!bed.search()) return NONE;
        if (what == 0) return bed.fewest;
        return what == 1 ? bed.rivals : bed.told;
    }

    public int shift(int post, int run) {
        if (!posts.has(post)) return refuseAsTold(NOBODY);
        view.see(now);
        if (!bed.gather(post)) return refuseAsTold(MISSING);
        if (!bed.search()) return refuseAsTold(STATE);
        if (run < 0 || run > bed.fewest) return refuseAsTold(NOBODY);
        return bed.leastShift(run);
    }

    public int put(int v) {
        if (v < -128) return refuse(BELOW);
        if (v > 127 || bed.rowLength >= ROW) return refuse(ROOM);
        bed.row[bed.rowLength] = v;
        bed.rowLength++;
        return bed.rowLength;
    }

    public int judge(int post) {
        if (!posts.has(post)) return refuse(NOBODY);
        view.see(now);
        if (!bed.gather(post)) return refuse(MISSING);
        int place = bed.firstWrong();
        bed.rowLength = 0;
        return place;
    }

    public int beside(int post, int other) {
        if (!posts.has(post)) return refuseAsTold(NOBODY);
        if (other != -1 && (!posts.has(other) || other == post)) return refuseAsTold(NOBODY);
        int was = posts.neighbour[post];
        posts.neighbour[post] = other;
        return was;
    }

    public int gap(int post, int time, int what) {
        if (!posts.has(post)) return refuseAsTold(NOBODY);
        if (what < 0 || what > 3) return refuseAsTold(OTHER);
        int why = whyNotTime(time);
        if (why != FINE) return refuseAsTold(why);
        view.see(now);
        if (view.find(post, time) >= 0) return refuseAsTold(STATE);
        if (!gaps.findEnds(post, time)) return refuseAsTold(MISSING);
        gaps.findNeighbour(post, time);
        if (!fillLets(time)) return refuseAsTold(STATE);
        if (what == 0) return gaps.filled(post, time);
        if (what == 3) return gaps.neighbour >= 0 ? 1 : 0;
        return what == 1 ? gaps.start : gaps.end;
    }

    public int peak(int post, int from, int to, int k) {
        if (!posts.has(post)) return refuse(NOBODY);
        if (from < 0 || to < from || k < 0) return refuse(BELOW);
        if (to > LAST_TIME || k > LAST_TIME) return refuse(ROOM);
        view.see(k);
        int greatest = rating.greatest(post, from, to);
        return greatest < 0 ? refuse(MISSING) : greatest;
    }

    public int often(int post, int n) {
        if (!posts.has(post)) return refuse(NOBODY);
        if (n < 0) return refuse(BELOW);
        if (n > LAST_FLOW_OF) return refuse(ROOM);
        view.see(now);
        int years = 0;
        for (int first = 0; first <= LAST_TIME; first += YEAR) {
            if (rating.greatest(post, first, first + YEAR - 1) >= n) years++;
        }
        return years;
    }

    public int agree(int one, int other, int from, int to, int what) {
        if (!posts.has(one) || !posts.has(other)) return refuse(NOBODY);
        if (what < 0 || what > 2) return refuse(OTHER);
        if (from < 0 || to < from) return refuse(BELOW);
        if (to > LAST_TIME || to - from >= AGREE_TIMES) return refuse(ROOM);
        view.see(now);
        rating.compare(one, other, from, to);
        if (rating.bestLag < 0) return refuse(MISSING);
        if (what == 0) return rating.bestLag;
        return (int) (what == 1 ? rating.bestSum : rating.bestMany);
    }

    public int next(int post) {
        if (!posts.has(post)) return refuseAsTold(NOBODY);
        view.see(now);
        rating.draw(post, 0, LAST_TIME);
        if (rating.curve.many < 2) return refuseAsTold(MISSING);
        return rating.worthMeasuring(post);
    }

    public int publish(int post, int time) {
        if (!posts.has(post)) return refuse(NOBODY);
        if (time < 0) return refuse(BELOW);
        if (time > LAST_TIME || publishedMany >= PUBLISHED) return refuse(ROOM);
        view.see(now);
        int at = view.find(post, time);
        int flow = rating.rate(at);
        if (flow < 0) return refuse(MISSING);
        if (!publishLets(at, flow)) return refuse(STATE);
        publishedPost[publishedMany] = post;
        publishedTime[publishedMany] = time;
        publishedFlow[publishedMany] = flow;
        publishedMany++;
        return publishedMany - 1;
    }

    public int published(int i, int what) {
        if (i < 0 || i >= publishedMany) return refuse(NOBODY);
        if (what < 0 || what > 3) return refuse(OTHER);
        if (what == 0) return publishedPost[i];
        if (what == 1) return publishedTime[i];
        if (what == 2) return publishedFlow[i];
        view.see(now);
        int flow = flowNow(i);
        return flow < 0 ? NONE : flow;
    }

    public int mend() {
        view.see(now);
        for (int i = 0; i < publishedMany; i++) {
            long told = publishedFlow[i];
            long flow = flowNow(i);
            if (flow < 0 || Math.abs(flow - told) * 100 > told * mendLimit) return i;
        }
        return NONE;
    }

    public int limit(int v) {
        if (v < 0) return refuse(BELOW);
        if (v > 100) return refuse(ROOM);
        int was = mendLimit;
        mendLimit = v;
        return was;
    }

    public int count(int what) {
        if (what >= 11 && what <= 16) return refusals[what - 11];
        switch (what) {
            case 0: return now;
            case 1: return posts.many;
            case 2: return posts.zeros;
            case 3: return heights.many;
            case 4: return heights.struckMany;
            case 5: return flows.many;
            case 6: return standards.many;
            case 7: return publishedMany;
            case 8: return covers.many;
            case 9: return tape.length;
            case 10: return bed.rowLength;
            default: return NONE;
        }
    }

    private int refuse(int why) {
        int place = -1 - why;
        if (place >= 0 && place < refusals.length) refusals[place]++;
        return why;
    }

    // Heights and SHIFTS may be below 0 themselves, so these calls refuse far above them.
    private int refuseAsTold(int why) {
        return AS_TOLD - refuse(why);
    }

    private int whyNotAt(int post, int time, int k) {
        if (!posts.has(post)) return NOBODY;
        if (time < 0 || k < 0) return BELOW;
        return time > LAST_TIME || k > LAST_TIME ? ROOM : FINE;
    }

    private static int whyNotTime(int time) {
        if (time < 0) return BELOW;
        return time > LAST_TIME ? ROOM : FINE;
    }

    private boolean fillLets(int time) {
        int standard = standards.inForce(FILL, time / DAY, now);
        if (standard < 0) return true;
        int[] letters = standards.lettersOf(time);
        letters[LETTER_G] = gaps.end - gaps.start;
        letters[LETTER_H] = view.postsAt(time);
        letters[LETTER_N] = gaps.neighbour >= 0 ? gaps.neighbour : NO_NEIGHBOUR_LETTER;
        return standards.holds(standard);
    }

    private boolean publishLets(int at, int flow) {
        int time = view.timeOf(at);
        int standard = standards.inForce(PUBLISH, time / DAY, now);
        if (standard < 0) return true;
        int[] letters = standards.lettersOf(time);
        letters[LETTER_F] = flow;
        letters[LETTER_W] = rating.howWrong(at);
        letters[LETTER_X] = rating.beyond(at);
        letters[LETTER_I] = covers.isOn(view.postOf(at), time, now) ? 1 : 0;
        return standards.holds(standard);
    }

    private int flowNow(int i) {
        return rating.rate(view.find(publishedPost[i], publishedTime[i]));
    }

    // One place where all sharing out is cut: a divisor of 0 gives 0.
    private static long share(long amount, long part, long whole) {
        return whole == 0 ? 0 : amount * part / whole;
    }

    /** POSTS with their ZEROS, LOWS, STRETCHES and NEIGHBOURS. */
    private static final class Posts {
        int many = 0;
        int zeros = 0;
        final int[] firstZero = new int[POSTS];
        final int[] low = new int[POSTS];
        final int[] neighbour = new int[POSTS];
        final int[] stretches = new int[POSTS];
        final int[][] stretchFrom = new int[POSTS][STRETCHES];
        final int[] zeroPost = new int[ZEROS];
        final int[] zeroValue = new int[ZEROS];
        final int[] zeroFrom = new int[ZEROS];
        final int[] zeroKnown = new int[ZEROS];

        boolean has(int post) {
            return post >= 0 && post < many;
        }

        int come(int zero) {
            firstZero[many] = zero;
            low[many] = FIRST_LOW;
            neighbour[many] = -1;
            many++;
            return many - 1;
        }

        int move(int post, int zero, int from, int now) {
            zeroPost[zeros] = post;
            zeroValue[zeros] = zero;
            zeroFrom[zeros] = from;
            zeroKnown[zeros] = now;
            zeros++;
            return zeros;
        }

        int zeroOf(int post, int time, int k) {
            int value = firstZero[post];
            int latest = -1;
            for (int i = 0; i < zeros; i++) {
                boolean fits = zeroPost[i] == post && zeroKnown[i] <= k && zeroFrom[i] <= time;
                if (fits && zeroFrom[i] >= latest) {
                    latest = zeroFrom[i];
                    value = zeroValue[i];
                }
            }
            return value;
        }

        boolean beginsAt(int post, int from) {
            for (int i = 0; i < stretches[post]; i++) {
                if (stretchFrom[post][i] == from) return true;
            }
            return false;
        }

        int begin(int post, int from) {
            stretchFrom[post][stretches[post]] = from;
            stretches[post]++;
            return stretches[post];
        }

        int stretchStart(int post, int time) {
            int start = 0;
            for (int i = 0; i < stretches[post]; i++) {
                int from = stretchFrom[post][i];
                if (from <= time && from > start) start = from;
            }
            return start;
        }

        int stretchEnd(int post, int time) {
            int end = LAST_TIME;
            for (int i = 0; i < stretches[post]; i++) {
                int from = stretchFrom[post][i];
                if (from > time && from <= end) end = from - 1;
            }
            return end;
        }
    }

    /** HEIGHTS as they were told. */
    private static final class Heights {
        int many = 0;
        int struckMany = 0;
        final int[] post = new int[HEIGHTS];
        final int[] time = new int[HEIGHTS];
        final int[] kind = new int[HEIGHTS];
        final int[] read = new int[HEIGHTS];
        final int[] known = new int[HEIGHTS];
        final int[] struck = new int[HEIGHTS];
        // Numbers by POST, TIME and number: so the one ahead of each is found in one pass.
        final int[] order = new int[HEIGHTS];

        boolean has(int height) {
            return height >= 0 && height < many;
        }

        boolean isStuck(int height) {
            return read[height] < 0;
        }

        int come(int ofPost, int atTime, int byKind, int asRead, int now) {
            post[many] = ofPost;
            time[many] = atTime;
            kind[many] = byKind;
            read[many] = asRead;
            known[many] = now;
            struck[many] = NEVER;
            int at = many;
            while (at > 0 && View.keyOf(post[order[at - 1]], time[order[at - 1]]) > View.keyOf(ofPost, atTime)) {
                order[at] = order[at - 1];
                at--;
            }
            order[at] = many;
            many++;
            return many - 1;
        }
    }

    /** FLOWS as they were measured. */
    private static final class Flows {
        int many = 0;
        final int[] post = new int[FLOWS];
        final int[] time = new int[FLOWS];
        final int[] number = new int[FLOWS];
        final int[] wrong = new int[FLOWS];
        final int[] known = new int[FLOWS];
        final int[] struck = new int[FLOWS];

        boolean has(int flow) {
            return flow >= 0 && flow < many;
        }

        int come(int atPost, int atTime, int flow, int wrongBy, int now) {
            post[many] = atPost;
            time[many] = atTime;
            number[many] = flow;
            wrong[many] = wrongBy;
            known[many] = now;
            struck[many] = NEVER;
            many++;
            return many - 1;
        }

        /** The place of its HEIGHT in the view if the FLOW counts there, else -1. */
        int placeOf(int flow, View view) {
            if (known[flow] > view.k || struck[flow] <= view.k) return -1;
            return view.find(post[flow], time[flow]);
        }

        int mayDiffer(int flow) {
            return (int) share(number[flow], wrong[flow], 100);
        }
    }

    /** ICE and WEED. */
    private static final class Covers {
        int many = 0;
        final int[] post = new int[COVERS];
        final int[] kind = new int[COVERS];
        final int[] from = new int[COVERS];
        final int[] to = new int[COVERS];
        final int[] hundredths = new int[COVERS];
        final int[] known = new int[COVERS];

        int come(int ofPost, int ofKind, int fromTime, int toTime, int n, int now) {
            post[many] = ofPost;
            kind[many] = ofKind;
            from[many] = fromTime;
            to[many] = toTime;
            hundredths[many] = n;
            known[many] = now;
            many++;
            return many;
        }

        /** The greatest hundredths of a KIND that is on, or -1 if none is. */
        int greatest(int ofKind, int ofPost, int time, int k) {
            int greatest = -1;
            for (int i = 0; i < many; i++) {
                boolean on = kind[i] == ofKind && post[i] == ofPost && known[i] <= k
                        && from[i] <= time && time <= to[i];
                if (on) greatest = Math.max(greatest, hundredthsAt(i, time));
            }
            return greatest;
        }

        boolean isOn(int ofPost, int time, int k) {
            return greatest(ICE, ofPost, time, k) >= 0 || greatest(WEED, ofPost, time, k) >= 0;
        }

        // WEED of one TIME alone has its last TIME there, so it is whole.
        private int hundredthsAt(int i, int time) {
            if (kind[i] == ICE || from[i] == to[i]) return hundredths[i];
            return (int) share(hundredths[i], time - from[i], to[i] - from[i]);
        }
    }

    /** THE TAPE, and the TEXT on it made ready: steps in the order in which they are reckoned. */
    private static final class Tape {
        private static final int DEEPEST = 5;
        private static final int DIGITS = 5;
        final int[] bytes = new int[TEXT];
        int length = 0;
        final int[] steps = new int[TEXT];
        int stepMany = 0;
        private int at = 0;

        int take(int n, long eight) {
            for (int i = 0; i < n && length < TEXT; i++) {
                bytes[length] = (int) (eight >> (8 * i)) & 255;
                length++;
            }
            return length;
        }

        /** The place of the FAULT, or -1: then the steps stand ready. */
        int fault() {
            at = 0;
            stepMany = 0;
            boolean stands = readOrs(0) && at >= length;
            return stands ? -1 : at;
        }

        private boolean readOrs(int depth) {
            if (!readAnds(depth)) return false;
            for (int i = 0; i < TEXT && isNext('|'); i++) {
                at++;
                if (!readAnds(depth)) return false;
                step(STEP_OR);
            }
            return true;
        }

        private boolean readAnds(int depth) {
            if (!readTest(depth)) return false;
            for (int i = 0; i < TEXT && isNext('&'); i++) {
                at++;
                if (!readTest(depth)) return false;
                step(STEP_AND);
            }
            return true;
        }

        private boolean readTest(int depth) {
            if (isNext('!')) return readNot(depth);
            if (isNext('(')) return readGroup(depth);
            if (!readSum()) return false;
            int sign = isNext('<') ? STEP_LESS : isNext('=') ? STEP_SAME : isNext('>') ? STEP_MORE : 0;
            if (sign == 0) return false;
            at++;
            if (!readSum()) return false;
            step(sign);
            return true;
        }

        private boolean readNot(int depth) {
            if (depth >= DEEPEST) return false;
            at++;
            if (!readTest(depth + 1)) return false;
            step(STEP_NOT);
            return true;
        }

        private boolean readGroup(int depth) {
            if (depth >= DEEPEST) return false;
            at++;
            if (!readOrs(depth + 1) || !isNext(')')) return false;
            at++;
            return true;
        }

        private boolean readSum() {
            if (!readUnit()) return false;
            for (int i = 0; i < TEXT; i++) {
                int sign = isNext('+') ? STEP_PLUS : isNext('-') ? STEP_MINUS : isNext('*') ? STEP_TIMES : 0;
                if (sign == 0) return true;
                at++;
                if (!readUnit()) return false;
                step(sign);
            }
            return true;
        }

        private boolean readUnit() {
            if (at >= length) return false;
            int letter = LETTERS.indexOf((char) bytes[at]);
            if (letter >= 0) {
                at++;
                step(-1 - letter);
                return true;
            }
            int number = 0;
            int digits = 0;
            while (digits < DIGITS && at < length && bytes[at] >= '0' && bytes[at] <= '9') {
                number = number * 10 + bytes[at] - '0';
                digits++;
                at++;
            }
            if (digits > 0) step(number);
            return digits > 0;
        }

        private boolean isNext(char sign) {
            return at < length && bytes[at] == sign;
        }

        private void step(int step) {
            if (stepMany >= TEXT) return;
            steps[stepMany] = step;
            stepMany++;
        }
    }

    /** STANDARDS, which is in force, and whether its TEXT holds. */
    private static final class Standards {
        private static final int HELD = 1000000000;
        int many = 0;
        final int[] purpose = new int[STANDARDS];
        final int[] day = new int[STANDARDS];
        final int[] known = new int[STANDARDS];
        final int[] stepMany = new int[STANDARDS];
        final int[] steps = new int[STANDARDS * TEXT];
        private final int[] letters = new int[LETTER_COUNT];
        private final int[] pile = new int[TEXT];

        int come(int ofPurpose, int fromDay, int now, Tape tape) {
            purpose[many] = ofPurpose;
            day[many] = fromDay;
            known[many] = now;
            stepMany[many] = tape.stepMany;
            System.arraycopy(tape.steps, 0, steps, many * TEXT, tape.stepMany);
            many++;
            return many - 1;
        }

        int inForce(int ofPurpose, int onDay, int k) {
            int found = -1;
            for (int i = 0; i < many; i++) {
                boolean fits = purpose[i] == ofPurpose && day[i] <= onDay && known[i] <= k;
                if (fits && (found < 0 || day[i] >= day[found])) found = i;
            }
            return found;
        }

        /** The letters, of which the TIME's stand and all others are 0. */
        int[] lettersOf(int time) {
            for (int i = 0; i < LETTER_COUNT; i++) letters[i] = 0;
            letters[LETTER_D] = time / DAY;
            letters[LETTER_M] = time % DAY;
            return letters;
        }

        boolean holds(int standard) {
            int first = standard * TEXT;
            int top = 0;
            for (int i = first; i < first + stepMany[standard]; i++) {
                int step = steps[i];
                if (step >= -LETTER_COUNT) {
                    if (top >= TEXT) return false;
                    pile[top] = step >= 0 ? step : letters[-1 - step];
                    top++;
                } else if (step == STEP_NOT) {
                    if (top < 1) return false;
                    pile[top - 1] = 1 - pile[top - 1];
                } else {
                    if (top < 2) return false;
                    top--;
                    pile[top - 1] = joined(step, pile[top - 1], pile[top]);
                }
            }
            return top > 0 && pile[0] != 0;
        }

        private static int joined(int step, long left, long right) {
            switch (step) {
                case STEP_PLUS: return held(left + right);
                case STEP_MINUS: return held(left - right);
                case STEP_TIMES: return held(left * right);
                case STEP_LESS: return left < right ? 1 : 0;
                case STEP_SAME: return left == right ? 1 : 0;
                case STEP_MORE: return left > right ? 1 : 0;
                case STEP_AND: return left != 0 && right != 0 ? 1 : 0;
                default: return left != 0 || right != 0 ? 1 : 0;
            }
        }

        private static int held(long number) {
            return (int) Math.max(-HELD, Math.min(HELD, number));
        }
    }

    /** What is known on K: which HEIGHTS are STRUCK, and the HEIGHT of each POST and TIME. */
    private static final class View {
        private static final int KEYS_OF_POST = 16384;
        private final Posts posts;
        private final Heights heights;
        private final Standards standards;
        int k = -1;
        // Counts the views that were made, so that what was drawn from an older one is drawn anew.
        int round = 0;
        private boolean stands = false;
        final int[] mark = new int[HEIGHTS];
        final int[] key = new int[HEIGHTS];
        final int[] level = new int[HEIGHTS];
        private final int[] kind = new int[HEIGHTS];
        int many = 0;

        View(Posts ofPosts, Heights ofHeights, Standards ofStandards) {
            posts = ofPosts;
            heights = ofHeights;
            standards = ofStandards;
        }

        static int keyOf(int post, int time) {
            return post * KEYS_OF_POST + time;
        }

        int postOf(int at) {
            return key[at] / KEYS_OF_POST;
        }

        int timeOf(int at) {
            return key[at] % KEYS_OF_POST;
        }

        void forget() {
            stands = false;
        }

        void see(int knownBy) {
            if (stands && k == knownBy) return;
            k = knownBy;
            round++;
            stands = true;
            many = 0;
            int ahead = -1;
            for (int i = 0; i < heights.many; i++) {
                int height = heights.order[i];
                if (ahead >= 0 && heights.post[ahead] != heights.post[height]) ahead = -1;
                mark[height] = 0;
                if (heights.known[height] > k || heights.isStuck(height)) continue;
                if (heights.struck[height] <= k) {
                    mark[height] = 2;
                    continue;
                }
                if (isStruckByText(height, ahead)) mark[height] = 1;
                else keep(height);
                ahead = height;
            }
        }

        private boolean isStruckByText(int height, int ahead) {
            int time = heights.time[height];
            int standard = standards.inForce(STRIKE, time / DAY, k);
            if (standard < 0) return false;
            int[] letters = standards.lettersOf(time);
            letters[LETTER_R] = heights.read[height];
            letters[LETTER_K] = heights.kind[height];
            letters[LETTER_A] = ahead < 0 ? 0 : Math.abs(heights.read[height] - heights.read[ahead]);
            letters[LETTER_B] = ahead < 0 ? NOTHING_AHEAD_LETTER : time - heights.time[ahead];
            return standards.holds(standard);
        }

        // HEIGHTS of one TIME come by their numbers, so a later one takes the place, but a PEN never a HAND's.
        private void keep(int height) {
            int post = heights.post[height];
            int time = heights.time[height];
            int itsKey = keyOf(post, time);
            boolean same = many > 0 && key[many - 1] == itsKey;
            if (same && kind[many - 1] > heights.kind[height]) return;
            if (!same) many++;
            key[many - 1] = itsKey;
            kind[many - 1] = heights.kind[height];
            level[many - 1] = heights.read[height] + posts.zeroOf(post, time, k);
        }

        /** The place of the first HEIGHT with this key or a greater one. */
        int firstFrom(int wanted) {
            int from = 0;
            int to = many;
            for (int i = 0; i < HEIGHTS && from < to; i++) {
                int middle = (from + to) / 2;
                if (key[middle] < wanted) from = middle + 1;
                else to = middle;
            }
            return from;
        }

        int find(int post, int time) {
            int wanted = keyOf(post, time);
            int at = firstFrom(wanted);
            return at < many && key[at] == wanted ? at : -1;
        }

        int postsAt(int time) {
            int found = 0;
            for (int post = 0; post < posts.many; post++) {
                if (find(post, time) >= 0) found++;
            }
            return found;
        }
    }

    /** POINTS by heights that rise, and FLOW AT by them. */
    private static final class Points {
        int many = 0;
        final int[] height;
        final int[] flow;

        Points(int room) {
            height = new int[room];
            flow = new int[room];
        }

        boolean falls(int i, int itsHeight, int itsFlow) {
            return i > 0 && (itsHeight <= height[i - 1] || itsFlow < flow[i - 1]);
        }

        int putAt(int i, int itsHeight, int itsFlow) {
            height[i] = itsHeight;
            flow[i] = itsFlow;
            many = i + 1;
            return many;
        }

        boolean isBeyond(int level) {
            return many > 0 && level > height[many - 1];
        }

        /** FLOW AT, or -1 without POINTS. */
        int flowBy(int level, int low) {
            if (many == 0) return -1;
            if (level < height[0]) return flowBelow(level, low);
            if (many == 1) return flow[0];
            int i = 0;
            while (i < many - 2 && height[i + 1] <= level) i++;
            long more = share(flow[i + 1] - flow[i], level - height[i], height[i + 1] - height[i]);
            return (int) Math.min(flow[i] + more, LAST_FLOW_OF);
        }

        private int flowBelow(int level, int low) {
            if (height[0] <= low) return flow[0];
            if (level <= low) return 0;
            return (int) share(flow[0], level - low, height[0] - low);
        }
    }

    /** The CURVE of a STRETCH, and FLOW OF, PEAK, AGREE and NEXT by it. */
    private static final class Rating {
        private final Posts posts;
        private final Flows flows;
        private final Covers covers;
        private final View view;
        final Points curve = new Points(FLOWS);
        private final int[] sum = new int[FLOWS];
        private final int[] measured = new int[FLOWS];
        private final int[] blockPoints = new int[FLOWS];
        private int greatestWrong = 0;
        private int drawnPost = -1;
        private int drawnFrom = 0;
        private int drawnTo = 0;
        private int drawnRound = 0;
        private final int[] rated = new int[HEIGHTS];
        int bestLag = -1;
        long bestSum = 0;
        long bestMany = 1;

        Rating(Posts ofPosts, Flows ofFlows, Covers ofCovers, View ofView) {
            posts = ofPosts;
            flows = ofFlows;
            covers = ofCovers;
            view = ofView;
        }

        void drawAt(int post, int time) {
            draw(post, posts.stretchStart(post, time), posts.stretchEnd(post, time));
        }

        void draw(int post, int from, int to) {
            boolean same = drawnPost == post && drawnFrom == from && drawnTo == to;
            if (same && drawnRound == view.round) return;
            drawnPost = post;
            drawnFrom = from;
            drawnTo = to;
            drawnRound = view.round;
            curve.many = 0;
            greatestWrong = 0;
            for (int i = 0; i < flows.many; i++) {
                boolean within = flows.post[i] == post && flows.time[i] >= from && flows.time[i] <= to;
                int place = within ? flows.placeOf(i, view) : -1;
                if (place < 0) continue;
                addPoint(view.level[place], flows.number[i]);
                greatestWrong = Math.max(greatestWrong, flows.wrong[i]);
            }
            setFlows(joinBlocks());
        }

        private void addPoint(int level, int flow) {
            int at = curve.many;
            while (at > 0 && curve.height[at - 1] > level) at--;
            if (at > 0 && curve.height[at - 1] == level) {
                sum[at - 1] += flow;
                measured[at - 1]++;
                return;
            }
            for (int i = curve.many; i > at; i--) {
                curve.height[i] = curve.height[i - 1];
                sum[i] = sum[i - 1];
                measured[i] = measured[i - 1];
            }
            curve.height[at] = level;
            sum[at] = flow;
            measured[at] = 1;
            curve.many++;
        }

        // Blocks take the rows of the POINTS: there are never more blocks than POINTS already read.
        private int joinBlocks() {
            int blocks = 0;
            for (int i = 0; i < curve.many; i++) {
                sum[blocks] = sum[i];
                measured[blocks] = measured[i];
                blockPoints[blocks] = 1;
                blocks++;
                while (blocks > 1 && !isAbove(blocks - 1, blocks - 2)) {
                    sum[blocks - 2] += sum[blocks - 1];
                    measured[blocks - 2] += measured[blocks - 1];
                    blockPoints[blocks - 2] += blockPoints[blocks - 1];
                    blocks--;
                }
            }
            return blocks;
        }

        private boolean isAbove(int block, int ahead) {
            return (long) sum[block] * measured[ahead] > (long) sum[ahead] * measured[block];
        }

        private void setFlows(int blocks) {
            int point = 0;
            for (int block = 0; block < blocks; block++) {
                int mean = (int) share(sum[block], 1, measured[block]);
                for (int i = 0; i < blockPoints[block]; i++) {
                    curve.flow[point] = mean;
                    point++;
                }
            }
        }

        /** FLOW OF the HEIGHT at this place of the view, or -1 if there is none. */
        int rate(int at) {
            if (at < 0 || at >= view.many) return -1;
            int post = view.postOf(at);
            int time = view.timeOf(at);
            draw(post, posts.stretchStart(post, time), posts.stretchEnd(post, time));
            int flow = curve.flowBy(view.level[at], posts.low[post]);
            if (flow < 0) return -1;
            flow = less(flow, covers.greatest(ICE, post, time, view.k));
            return less(flow, covers.greatest(WEED, post, time, view.k));
        }

        private static int less(int flow, int hundredths) {
            return hundredths <= 0 ? flow : flow - (int) share(flow, hundredths, 100);
        }

        // Asked behind rate only: the CURVE that it drew still stands.
        int howWrong(int at) {
            int wrong = beyond(at) == 1 ? 2 * greatestWrong + 10 : greatestWrong;
            return Math.min(wrong, 100);
        }

        int beyond(int at) {
            return curve.isBeyond(view.level[at]) ? 1 : 0;
        }

        /** The greatest FLOW OF, or -1 if there is none. */
        int greatest(int post, int from, int to) {
            int greatest = -1;
            int last = View.keyOf(post, to);
            for (int at = view.firstFrom(View.keyOf(post, from)); at < view.many && view.key[at] <= last; at++) {
                greatest = Math.max(greatest, rate(at));
            }
            return greatest;
        }

        private void rateAll(int post, int from, int to) {
            int last = View.keyOf(post, to);
            for (int at = view.firstFrom(View.keyOf(post, from)); at < view.many && view.key[at] <= last; at++) {
                rated[at] = rate(at);
            }
        }

        void compare(int one, int other, int from, int to) {
            rateAll(one, from, to);
            rateAll(other, from, Math.min(to + LAGS, LAST_TIME));
            bestLag = -1;
            bestSum = 0;
            bestMany = 1;
            for (int lag = 0; lag <= LAGS; lag++) compareBy(lag, one, other, from, to);
            long common = commonDivisor(bestSum, bestMany);
            if (common > 1) {
                bestSum /= common;
                bestMany /= common;
            }
        }

        private void compareBy(int lag, int one, int other, int from, int to) {
            long differ = 0;
            long both = 0;
            int last = View.keyOf(one, to);
            int there = view.firstFrom(View.keyOf(other, from + lag));
            for (int at = view.firstFrom(View.keyOf(one, from)); at < view.many && view.key[at] <= last; at++) {
                int wanted = View.keyOf(other, view.timeOf(at) + lag);
                while (there < view.many && view.key[there] < wanted) there++;
                boolean met = there < view.many && view.key[there] == wanted;
                if (met && rated[at] >= 0 && rated[there] >= 0) {
                    differ += Math.abs(rated[at] - rated[there]);
                    both++;
                }
            }
            if (both > 0 && (bestLag < 0 || differ * bestMany < bestSum * both)) {
                bestLag = lag;
                bestSum = differ;
                bestMany = both;
            }
        }

        private static long commonDivisor(long one, long other) {
            long a = one;
            long b = other;
            for (int i = 0; i < 100 && b != 0; i++) {
                long rest = a % b;
                a = b;
                b = rest;
            }
            return a;
        }

        /** The middle of the two POINTS between which a FLOW is wanted most; there must be two. */
        int worthMeasuring(int post) {
            long most = -1;
            int middle = 0;
            for (int i = 0; i + 1 < curve.many; i++) {
                int lower = curve.height[i];
                int upper = curve.height[i + 1];
                long worth = (long) (upper - lower) * heightsBetween(post, lower, upper);
                if (worth > most) {
                    most = worth;
                    middle = Math.floorDiv(lower + upper, 2);
                }
            }
            return middle;
        }

        private int heightsBetween(int post, int lower, int upper) {
            int found = 0;
            int last = View.keyOf(post, LAST_TIME);
            for (int at = view.firstFrom(View.keyOf(post, 0)); at < view.many && view.key[at] <= last; at++) {
                if (view.level[at] > lower && view.level[at] < upper) found++;
            }
            return found;
        }
    }

    /** Days on which the bed must have moved: bases, the search, and the row that is JUDGED. */
    private static final class Breaks {
        private static final int PICKS = 8;
        private final Flows flows;
        private final View view;
        final Points[] bases = new Points[POSTS];
        final int[] row = new int[ROW];
        int rowLength = 0;
        private final int[] picked = new int[PICKS];
        int picks = 0;
        // SHIFTS with which each FLOW goes, as bits: two numbers a FLOW.
        private final long[] goes = new long[2 * PICKS];
        int fewest = 0;
        int rivals = 0;
        int told = 0;

        Breaks(Flows ofFlows, View ofView) {
            flows = ofFlows;
            view = ofView;
            for (int i = 0; i < POSTS; i++) bases[i] = new Points(BASE);
        }

        /** False if there is no base or no FLOW. */
        boolean gather(int post) {
            picks = 0;
            for (int i = 0; i < flows.many; i++) {
                if (flows.post[i] == post && flows.placeOf(i, view) >= 0) pick(i);
            }
            if (bases[post].many == 0 || picks == 0) return false;
            for (int i = 0; i < picks; i++) findShifts(i, bases[post]);
            return true;
        }

        // FLOWS come by their numbers, so one of the same TIME goes behind those that stand.
        private void pick(int flow) {
            int at = picks;
            while (at > 0 && flows.time[picked[at - 1]] > flows.time[flow]) at--;
            if (at >= PICKS) return;
            if (picks < PICKS) picks++;
            for (int i = picks - 1; i > at; i--) picked[i] = picked[i - 1];
            picked[at] = flow;
        }

        private void findShifts(int i, Points base) {
            int flow = picked[i];
            int place = flows.placeOf(flow, view);
            goes[2 * i] = 0;
            goes[2 * i + 1] = 0;
            if (place < 0) return;
            int least = flows.number[flow] - flows.mayDiffer(flow);
            int most = flows.number[flow] + flows.mayDiffer(flow);
            for (int shift = -LAST_SHIFT; shift <= LAST_SHIFT; shift++) {
                int by = base.flowBy(view.level[place] + shift, FIRST_LOW);
                int bit = shift + LAST_SHIFT;
                if (by >= least && by <= most) goes[2 * i + bit / 64] |= 1L << (bit % 64);
            }
        }

        /** False if by none they go. */
        boolean search() {
            fewest = PICKS;
            rivals = 0;
            for (int set = 0; set < 1 << (picks - 1); set++) {
                int many = Integer.bitCount(set);
                if (many > fewest || !allGo(set)) continue;
                if (many < fewest) {
                    fewest = many;
                    rivals = 0;
                    told = set;
                }
                rivals++;
            }
            return rivals > 0;
        }

        private boolean allGo(int set) {
            long some = -1;
            long others = -1;
            for (int i = 0; i < picks; i++) {
                if (isRunStart(set, i)) {
                    some = -1;
                    others = -1;
                }
                some &= goes[2 * i];
                others &= goes[2 * i + 1];
                if ((some | others) == 0) return false;
            }
            return true;
        }

        private static boolean isRunStart(int set, int i) {
            return i == 0 || ((set >> (i - 1)) & 1) == 1;
        }

        private boolean runGoesWith(int set, int run, int shift) {
            if (shift < -LAST_SHIFT || shift > LAST_SHIFT) return false;
            int bit = shift + LAST_SHIFT;
            int ofRun = -1;
            for (int i = 0; i < picks; i++) {
                if (isRunStart(set, i)) ofRun++;
                if (ofRun == run && ((goes[2 * i + bit / 64] >> (bit % 64)) & 1) == 0) return false;
            }
            return true;
        }

        /** The SHIFT of a run of the set that search told. */
        int leastShift(int run) {
            for (int amount = 0; amount <= LAST_SHIFT; amount++) {
                if (runGoesWith(told, run, -amount)) return -amount;
                if (runGoesWith(told, run, amount)) return amount;
            }
            return 0;
        }

        /** The place of the row's first byte that is wrong, or NONE. */
        int firstWrong() {
            if (rowLength == 0) return 0;
            int set = row[0];
            if (set < 0 || set >= 1 << (picks - 1)) return 0;
            int runs = Integer.bitCount(set) + 1;
            for (int run = 0; run < runs; run++) {
                if (run + 1 >= rowLength || !runGoesWith(set, run, row[run + 1])) return run + 1;
            }
            return rowLength > runs + 1 ? runs + 1 : NONE;
        }
    }

    /** A GAP: its ends, its NEIGHBOUR, and what fills it. */
    private static final class Gaps {
        private final Posts posts;
        private final View view;
        int start = 0;
        int end = 0;
        int neighbour = -1;

        Gaps(Posts ofPosts, View ofView) {
            posts = ofPosts;
            view = ofView;
        }

        /** False if it has none, or none that are near enough. */
        boolean findEnds(int post, int time) {
            int behind = view.firstFrom(View.keyOf(post, time));
            int ahead = behind - 1;
            if (ahead < 0 || behind >= view.many) return false;
            if (view.postOf(ahead) != post || view.postOf(behind) != post) return false;
            start = view.timeOf(ahead);
            end = view.timeOf(behind);
            return end - start <= GAP_TIMES;
        }

        void findNeighbour(int post, int time) {
            neighbour = posts.neighbour[post];
            if (neighbour < 0) return;
            boolean whole = view.find(neighbour, start) >= 0 && view.find(neighbour, end) >= 0
                    && view.find(neighbour, time) >= 0;
            if (!whole) neighbour = -1;
        }

        int filled(int post, int time) {
            int own = between(post, time);
            if (neighbour < 0) return own;
            int at = view.find(neighbour, time);
            return at < 0 ? own : own + view.level[at] - between(neighbour, time);
        }

        private int between(int post, int time) {
            int first = view.find(post, start);
            int last = view.find(post, end);
            if (first < 0 || last < 0) return 0;
            long more = share(view.level[last] - view.level[first], time - start, end - start);
            return view.level[first] + (int) more;
        }
    }
}
