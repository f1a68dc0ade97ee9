import java.util.Arrays;
import java.util.NoSuchElementException;

/** A cache of compressed lines, as ../shared/DOC.md tells it; the words in capitals are that document's. */
public final class PackedCache {
    public static final int NONE = -1;

    private static final int NOTHING = -2;

    private static final int TAPE_ROOM = 1200;
    private static final int FED = 20;
    private static final int LINES = 32;
    private static final int PLACES = 8;
    private static final int MEMORY = 256;
    private static final int WORD_END = 65536;
    private static final int MOST_WAYS = 4;
    private static final int LINES_TOLD = 16;
    private static final int STEPS = 16;
    private static final int UNSURE = 4;
    private static final int SEEN = 6;
    private static final int KEPT = 16;
    private static final int IMAGES = 3;
    private static final int MOST_DRAWN = 200;
    private static final int SEEDS = 65537;

    private static final int RAW = 7;
    private static final int RAW_BYTES = 16;
    private static final int FIRST_BASED = 2;
    private static final int LAST_BASED = 6;
    private static final int[] FORM_BYTES = {1, 2, 9, 11, 11, 13, 13, 16};
    private static final int[] FORM_SEGMENTS = {1, 1, 3, 3, 3, 4, 4, 4};
    private static final int[] LANE_WIDTH = {0, 0, 4, 2, 8, 4, 8, 0};
    private static final int[] SMALL_END = {0, 0, 128, 128, 128, 32768, 32768, 0};

    private static final int NO_SUCH = 1;
    private static final int NUMBER = 2;
    private static final int NO_ROOM = 3;
    private static final int FAULTY = 4;
    private static final int NOT_SO = 5;
    private static final int THERE_IS_NONE = 6;

    private static final int READ = 0;
    private static final int WRITE = 1;
    private static final int DROP = 2;
    private static final int CLEAN = 3;

    private final byte[] tape;
    private int taped;
    private Plan plan;
    private Plan spare;
    private boolean hasCache;
    private final Teller teller;
    private final Store now;
    private final Store trial;
    private final Past past;
    private final Store[] images;
    private int imaged;
    private int refusal;

    public PackedCache() {
        tape = new byte[TAPE_ROOM];
        plan = new Plan();
        spare = new Plan();
        teller = new Teller();
        now = new Store();
        trial = new Store();
        past = new Past();
        images = new Store[IMAGES];
    }

    // ---- the cache

    public int feed(int a, int b, int c, int d, int e) {
        if (taped > TAPE_ROOM - FED) {
            return NONE;
        }
        tapeFour(a);
        tapeFour(b);
        tapeFour(c);
        tapeFour(d);
        tapeFour(e);
        return taped;
    }

    private void tapeFour(int number) {
        for (int shift = 24; shift >= 0; shift -= 8) {
            if (taped < TAPE_ROOM) {
                tape[taped] = (byte) (number >> shift);
                taped++;
            }
        }
    }

    public int cache(int n) {
        if (n < 0 || n > taped) {
            return refuse(NUMBER);
        }
        taped = 0;
        if (!teller.tellAll(tape, n, spare)) {
            return refuse(FAULTY);
        }
        Plan told = spare;
        spare = plan;
        plan = told;
        hasCache = true;
        imaged = 0;
        now.begin(plan, plan.ways, false, 0);
        past.forgetAll(now);
        return pass(plan.steps);
    }

    public int fault() {
        return teller.faultFound;
    }

    public int where() {
        return refusal == FAULTY ? teller.faultPlace : NONE;
    }

    // ---- lines

    public int word(int l, int i) {
        if (!isPlace(l, i)) {
            return refuse(NO_SUCH);
        }
        return pass(now.words[l * PLACES + i]);
    }

    public int memory(int l, int i) {
        if (!isPlace(l, i)) {
            return refuse(NO_SUCH);
        }
        return pass(now.memory[l * PLACES + i]);
    }

    public int form(int l) {
        if (!isLine(l)) {
            return refuse(NO_SUCH);
        }
        return pass(Shape.shortest(now.words, l));
    }

    public int bytes(int l, int form) {
        if (!isLine(l)) {
            return refuse(NO_SUCH);
        }
        if (!isForm(form)) {
            return refuse(NUMBER);
        }
        return pass(Shape.holds(now.words, l, form) ? FORM_BYTES[form] : NOTHING);
    }

    public int forms(int l) {
        if (!isLine(l)) {
            return refuse(NO_SUCH);
        }
        int count = 0;
        for (int form = 0; form <= RAW; form++) {
            if (Shape.holds(now.words, l, form)) {
                count++;
            }
        }
        return pass(count);
    }

    public int segments(int l) {
        if (!isLine(l)) {
            return refuse(NO_SUCH);
        }
        return pass(FORM_SEGMENTS[Shape.shortest(now.words, l)]);
    }

    public long base(int l, int form) {
        if (!isLine(l)) {
            return refuse(NO_SUCH);
        }
        if (!isBased(form)) {
            return refuse(NUMBER);
        }
        refusal = 0;
        return Shape.baseOf(now.words, l, form);
    }

    public int mask(int l, int form) {
        if (!isLine(l)) {
            return refuse(NO_SUCH);
        }
        if (!isBased(form)) {
            return refuse(NUMBER);
        }
        int bits = 0;
        for (int k = 0; k < Shape.lanesOf(form); k++) {
            if (Shape.isSmall(Shape.lane(now.words, l, form, k), form)) {
                bits |= 1 << k;
            }
        }
        return pass(bits);
    }

    public long difference(int l, int form, int k) {
        if (!isLine(l)) {
            return refuse(NO_SUCH);
        }
        // How many LANES there are hangs on the FORM, so it is looked at ahead of k.
        if (!isBased(form)) {
            return refuse(NUMBER);
        }
        if (k < 0 || k >= Shape.lanesOf(form)) {
            return refuse(NO_SUCH);
        }
        refusal = 0;
        long lane = Shape.lane(now.words, l, form, k);
        return Shape.isSmall(lane, form) ? lane : lane - Shape.baseOf(now.words, l, form);
    }

    public int linesOf(int form) {
        if (!hasCache) {
            return refuse(NO_SUCH);
        }
        if (!isForm(form)) {
            return refuse(NUMBER);
        }
        int count = 0;
        for (int l = 0; l < LINES; l++) {
            if (Shape.shortest(now.words, l) == form) {
                count++;
            }
        }
        return pass(count);
    }

    // ---- sets, tags

    public int set(int s, int what) {
        if (!isSet(s)) {
            return refuse(NO_SUCH);
        }
        switch (what) {
            case 0:
                return pass(now.tagsIn(s, NONE));
            case 1:
                return pass(now.segmentsIn(s, NONE));
            case 2:
                return pass(now.dirtyIn(s));
            case 3:
                return pass(now.segmentRoom() - now.segmentsIn(s, NONE));
            default:
                return refuse(NO_SUCH);
        }
    }

    public int tag(int s, int k) {
        if (!isSet(s)) {
            return refuse(NO_SUCH);
        }
        for (int l = 0; l < LINES; l++) {
            if (now.setOf(l) == s && now.used[l] > 0 && now.usedSince(l) == k) {
                return pass(l);
            }
        }
        return refuse(NO_SUCH);
    }

    public int cached(int l, int what) {
        if (!isLine(l) || now.used[l] == 0) {
            return refuse(NO_SUCH);
        }
        switch (what) {
            case 0:
                return pass(now.setOf(l));
            case 1:
                return pass(now.used[l]);
            case 2:
                return pass(now.dirty[l]);
            case 3:
                return pass(now.usedSince(l));
            default:
                return refuse(NO_SUCH);
        }
    }

    public int isCached(int l) {
        if (!isLine(l)) {
            return refuse(NO_SUCH);
        }
        return pass(now.used[l] > 0 ? 1 : 0);
    }

    public int victim(int s) {
        if (!isSet(s)) {
            return refuse(NO_SUCH);
        }
        int l = now.nextVictim(s, NONE);
        return pass(l < 0 ? NOTHING : l);
    }

    public int makesRoom(int l) {
        if (!isLine(l)) {
            return refuse(NO_SUCH);
        }
        trial.copyOf(now);
        trial.use(l * PLACES, NONE);
        return pass(trial.victims);
    }

    public int growsOver(int l, int i, int word) {
        if (!isPlace(l, i)) {
            return refuse(NO_SUCH);
        }
        if (!isWord(word)) {
            return refuse(NUMBER);
        }
        trial.copyOf(now);
        trial.use(l * PLACES + i, word);
        return pass(trial.victims);
    }

    public long ratio(boolean lower) {
        if (!hasCache) {
            return refuse(NO_SUCH);
        }
        int raw = 0;
        int packed = 0;
        for (int l = 0; l < LINES; l++) {
            if (now.used[l] > 0) {
                raw += RAW_BYTES;
                packed += FORM_BYTES[now.shape[l]];
            }
        }
        int common = commonDivisor(raw, packed);
        if (common < 1) {
            return pass(1);
        }
        return pass((lower ? packed : raw) / common);
    }

    private static int commonDivisor(int a, int b) {
        int x = a;
        int y = b;
        for (int turn = 0; turn < 64 && y > 0; turn++) {
            int rest = x % y;
            x = y;
            y = rest;
        }
        return x;
    }

    public int lines() {
        if (!hasCache) {
            return refuse(NO_SUCH);
        }
        int count = 0;
        for (int l = 0; l < LINES; l++) {
            if (now.used[l] > 0) {
                count++;
            }
        }
        return pass(count);
    }

    // ---- runs

    public int runHits() {
        if (!hasCache) {
            return refuse(NO_SUCH);
        }
        runTold(plan.ways, false);
        return pass(trial.hits);
    }

    public int runVictims() {
        if (!hasCache) {
            return refuse(NO_SUCH);
        }
        runTold(plan.ways, false);
        return pass(trial.victims);
    }

    public int runBacks() {
        if (!hasCache) {
            return refuse(NO_SUCH);
        }
        runTold(plan.ways, false);
        return pass(trial.backs);
    }

    public int runStep(int k) {
        if (!hasCache || k < 0 || k >= plan.steps) {
            return refuse(NO_SUCH);
        }
        return pass(runTold(plan.ways, false) >> k & 1);
    }

    public int plainHits() {
        if (!hasCache) {
            return refuse(NO_SUCH);
        }
        runTold(plan.ways, true);
        return pass(trial.hits);
    }

    public int plainBacks() {
        if (!hasCache) {
            return refuse(NO_SUCH);
        }
        runTold(plan.ways, true);
        return pass(trial.backs);
    }

    public int hitsBy(int ways) {
        if (!hasCache) {
            return refuse(NO_SUCH);
        }
        if (ways < 1 || ways > MOST_WAYS) {
            return refuse(NUMBER);
        }
        runTold(ways, false);
        return pass(trial.hits);
    }

    public int waysFor(int n) {
        if (!hasCache) {
            return refuse(NO_SUCH);
        }
        if (n < 0 || n > STEPS) {
            return refuse(NUMBER);
        }
        for (int ways = 1; ways <= MOST_WAYS; ways++) {
            runTold(ways, false);
            if (trial.hits >= n) {
                return pass(ways);
            }
        }
        return pass(NOTHING);
    }

    /** The STEPS of RUN that HIT, as bits; what else it came to is told by the trial. */
    private int runTold(int ways, boolean plain) {
        trial.begin(plan, ways, plain, 0);
        return trial.runSteps(plan);
    }

    // ---- unsure words

    public int fits() {
        if (!hasCache) {
            return refuse(NO_SUCH);
        }
        return pass(Integer.bitCount(fitBits()));
    }

    public int fitAt(int i) {
        if (!hasCache || i < 0) {
            return refuse(NO_SUCH);
        }
        int bits = fitBits();
        int ahead = 0;
        for (int others = 0; others < 1 << UNSURE; others++) {
            if ((bits >> others & 1) == 1) {
                if (ahead == i) {
                    return pass(others);
                }
                ahead++;
            }
        }
        return refuse(NO_SUCH);
    }

    public int could() {
        if (!hasCache) {
            return refuse(NO_SUCH);
        }
        int bits = fitBits();
        int some = 0;
        for (int others = 0; others < 1 << UNSURE; others++) {
            if ((bits >> others & 1) == 1) {
                some |= others;
            }
        }
        return pass(some);
    }

    public int surely() {
        if (!hasCache) {
            return refuse(NO_SUCH);
        }
        int bits = fitBits();
        int all = bits == 0 ? 0 : (1 << UNSURE) - 1;
        for (int others = 0; others < 1 << UNSURE; others++) {
            if ((bits >> others & 1) == 1) {
                all &= others;
            }
        }
        return pass(all);
    }

    public int ask() {
        if (!hasCache) {
            return refuse(NO_SUCH);
        }
        return pass(bestAsked(fitBits()));
    }

    public int askLeaves() {
        if (!hasCache) {
            return refuse(NO_SUCH);
        }
        int bits = fitBits();
        int u = bestAsked(bits);
        return pass(u < 0 ? NOTHING : leftAtMost(bits, u));
    }

    public int judge() {
        if (!hasCache) {
            return refuse(NO_SUCH);
        }
        int hits = runTold(plan.ways, false);
        for (int k = 0; k < plan.seen; k++) {
            if ((hits >> plan.seenStep[k] & 1) != plan.seenHit[k]) {
                return pass(k);
            }
        }
        return pass(NOTHING);
    }

    /** The sets that are FITS, as bits; they hang on the text alone, so one reckoning serves all calls. */
    private int fitBits() {
        if (plan.fitsKnown) {
            return plan.fitBits;
        }
        int bits = 0;
        for (int others = 0; others < 1 << plan.unsure; others++) {
            trial.begin(plan, plan.ways, false, others);
            if (plan.agrees(trial.runSteps(plan))) {
                bits |= 1 << others;
            }
        }
        plan.fitBits = bits;
        plan.fitsKnown = true;
        return bits;
    }

    private int bestAsked(int bits) {
        int best = NOTHING;
        int fewest = 0;
        if (bits == 0) {
            return NOTHING;
        }
        for (int u = 0; u < plan.unsure; u++) {
            int left = leftAtMost(bits, u);
            if (best < 0 || left < fewest) {
                best = u;
                fewest = left;
            }
        }
        return best;
    }

    private static int leftAtMost(int bits, int u) {
        int with = 0;
        for (int others = 0; others < 1 << UNSURE; others++) {
            with += (bits >> others & 1) & (others >> u & 1);
        }
        return Math.max(with, Integer.bitCount(bits) - with);
    }

    // ---- drawn

    public int drawnHits(int seed, int n) {
        if (!hasCache) {
            return refuse(NO_SUCH);
        }
        if (!isDrawable(seed, n)) {
            return refuse(NUMBER);
        }
        runDrawn(seed, n);
        return pass(trial.hits);
    }

    public int drawnBacks(int seed, int n) {
        if (!hasCache) {
            return refuse(NO_SUCH);
        }
        if (!isDrawable(seed, n)) {
            return refuse(NUMBER);
        }
        runDrawn(seed, n);
        return pass(trial.backs);
    }

    private static boolean isDrawable(int seed, int n) {
        return seed >= 0 && seed < SEEDS && n >= 0 && n <= MOST_DRAWN;
    }

    private void runDrawn(int seed, int n) {
        trial.copyOf(now);
        int drawn = seed;
        for (int k = 0; k < n; k++) {
            drawn = drawAfter(drawn);
            int spot = drawn % LINES * PLACES;
            int word = NONE;
            drawn = drawAfter(drawn);
            if (drawn % 4 == 0) {
                drawn = drawAfter(drawn);
                spot += drawn % PLACES;
                drawn = drawAfter(drawn);
                word = drawn % 300;
            }
            trial.use(spot, word);
        }
    }

    private static int drawAfter(int seed) {
        return (75 * seed + 74) % SEEDS;
    }

    // ---- acts

    public int read(int l, int i) {
        if (!isPlace(l, i)) {
            return refuse(NO_SUCH);
        }
        past.doNext(now, READ, l * PLACES + i, NONE);
        return pass(now.words[l * PLACES + i]);
    }

    public int write(int l, int i, int word) {
        if (!isPlace(l, i)) {
            return refuse(NO_SUCH);
        }
        if (!isWord(word)) {
            return refuse(NUMBER);
        }
        past.doNext(now, WRITE, l * PLACES + i, word);
        return pass(now.shape[l]);
    }

    public int drop(int l) {
        if (!isLine(l)) {
            return refuse(NO_SUCH);
        }
        if (now.used[l] == 0) {
            return refuse(NOT_SO);
        }
        int wasDirty = now.dirty[l];
        past.doNext(now, DROP, l * PLACES, NONE);
        return pass(wasDirty);
    }

    public int clean() {
        if (!hasCache) {
            return refuse(NO_SUCH);
        }
        int count = 0;
        for (int l = 0; l < LINES; l++) {
            count += now.dirty[l];
        }
        if (count == 0) {
            return refuse(THERE_IS_NONE);
        }
        past.doNext(now, CLEAN, 0, NONE);
        return pass(count);
    }

    public boolean undo() {
        if (!past.takeBack(now)) {
            refusal = THERE_IS_NONE;
            return false;
        }
        refusal = 0;
        return true;
    }

    public int image() {
        if (!hasCache) {
            return refuse(NO_SUCH);
        }
        if (imaged >= IMAGES) {
            return refuse(NO_ROOM);
        }
        if (images[imaged] == null) {
            images[imaged] = new Store();
        }
        images[imaged].copyOf(now);
        imaged++;
        return pass(imaged - 1);
    }

    public boolean back(int image) {
        if (image < 0 || image >= imaged || image >= IMAGES || images[image] == null) {
            refusal = NO_SUCH;
            return false;
        }
        now.copyOf(images[image]);
        past.forgetAll(now);
        refusal = 0;
        return true;
    }

    // ---- what is told

    public int led(int i) throws NoSuchElementException {
        int ahead = 0;
        for (int l = 0; l < LINES; l++) {
            if (now.dirty[l] == 1) {
                if (ahead == i) {
                    return l;
                }
                ahead++;
            }
        }
        throw new NoSuchElementException("no such line is dirty");
    }

    public int size(int what) {
        switch (what) {
            case 0:
                return plan.sets;
            case 1:
                return plan.ways;
            case 2:
                return plan.weighed ? 1 : 0;
            case 3:
                return plan.linesTold;
            case 4:
                return plan.steps;
            case 5:
                return plan.unsure;
            case 6:
                return plan.seen;
            case 7:
                return past.kept;
            case 8:
                return imaged;
            case 9:
                return taped;
            default:
                return NONE;
        }
    }

    public int trouble() {
        return refusal;
    }

    private int refuse(int why) {
        refusal = why;
        return NONE;
    }

    private int pass(int answer) {
        refusal = 0;
        return answer;
    }

    private boolean isLine(int l) {
        return hasCache && l >= 0 && l < LINES;
    }

    private boolean isPlace(int l, int i) {
        return isLine(l) && i >= 0 && i < PLACES;
    }

    private boolean isSet(int s) {
        return hasCache && s >= 0 && s < plan.sets;
    }

    private static boolean isForm(int form) {
        return form >= 0 && form <= RAW;
    }

    private static boolean isBased(int form) {
        return form >= FIRST_BASED && form <= LAST_BASED;
    }

    private static boolean isWord(int word) {
        return word >= 0 && word < WORD_END;
    }

    /** The FORMS of a line; its callers have looked at the line's and the FORM's number. */
    private static final class Shape {
        private Shape() {
        }

        /** FORMS are numbered by their bytes, so the first that fits is the shortest. */
        static int shortest(int[] words, int l) {
            for (int form = 0; form < RAW; form++) {
                if (holds(words, l, form)) {
                    return form;
                }
            }
            return RAW;
        }

        static boolean holds(int[] words, int l, int form) {
            if (form == RAW) {
                return true;
            }
            if (form < FIRST_BASED) {
                return isFull(words, l, form == 0 ? 0 : words[l * PLACES]);
            }
            boolean based = false;
            long from = 0;
            for (int k = 0; k < lanesOf(form); k++) {
                long lane = lane(words, l, form, k);
                if (!isSmall(lane, form)) {
                    if (based && !isSmall(lane - from, form)) {
                        return false;
                    }
                    from = based ? from : lane;
                    based = true;
                }
            }
            return true;
        }

        private static boolean isFull(int[] words, int l, int word) {
            for (int i = 0; i < PLACES; i++) {
                if (words[l * PLACES + i] != word) {
                    return false;
                }
            }
            return true;
        }

        static long baseOf(int[] words, int l, int form) {
            for (int k = 0; k < lanesOf(form); k++) {
                long lane = lane(words, l, form, k);
                if (!isSmall(lane, form)) {
                    return lane;
                }
            }
            return 0;
        }

        static int lanesOf(int form) {
            int width = LANE_WIDTH[form];
            return width < 1 ? 0 : RAW_BYTES / width;
        }

        static long lane(int[] words, int l, int form, int k) {
            int many = LANE_WIDTH[form] / 2;
            int from = l * PLACES + k * many;
            long lane = 0;
            for (int i = 0; i < many; i++) {
                lane = lane << 16 | words[from + i];
            }
            return lane;
        }

        static boolean isSmall(long number, int form) {
            return number >= -SMALL_END[form] && number < SMALL_END[form];
        }
    }

    /** What a text tells of a CACHE; a spot is eight times a line's number and a place. */
    private static final class Plan {
        private int sets;
        private int ways;
        private boolean weighed;
        private int linesTold;
        private final int[] toldAlready = new int[LINES];
        private final int[] memory = new int[MEMORY];
        private int steps;
        private final int[] stepSpot = new int[STEPS];
        private final int[] stepWord = new int[STEPS];
        private int unsure;
        private final int[] unsureSpot = new int[UNSURE];
        private final int[] unsureWord = new int[UNSURE];
        private int seen;
        private final int[] seenStep = new int[SEEN];
        private final int[] seenHit = new int[SEEN];
        private boolean fitsKnown;
        private int fitBits;

        void clearAll() {
            sets = 0;
            ways = 0;
            weighed = false;
            linesTold = 0;
            Arrays.fill(toldAlready, 0);
            Arrays.fill(memory, 0);
            steps = 0;
            unsure = 0;
            seen = 0;
            fitsKnown = false;
        }

        boolean isUnsure(int spot) {
            for (int u = 0; u < unsure; u++) {
                if (unsureSpot[u] == spot) {
                    return true;
                }
            }
            return false;
        }

        boolean isSeen(int step) {
            for (int k = 0; k < seen; k++) {
                if (seenStep[k] == step) {
                    return true;
                }
            }
            return false;
        }

        boolean agrees(int hits) {
            for (int k = 0; k < seen; k++) {
                if ((hits >> seenStep[k] & 1) != seenHit[k]) {
                    return false;
                }
            }
            return true;
        }
    }

    /** Reads a text into a Plan from the left, so that the first FAULT met is the one to tell. */
    private static final class Teller {
        private static final int END = 0;
        private static final int NAME = 1;
        private static final int WHOLE = 2;
        private static final int PART = 3;
        private static final int BAD = 4;

        private static final int FORM = 1;
        private static final int UNTOLD = 2;
        private static final int AGAIN = 3;
        private static final int BOUNDS = 4;
        private static final int MANY = 5;
        private static final int LACKS = 6;

        private byte[] text;
        private int end;
        private int at;
        private int kind;
        private int start;
        private int value;
        private Plan told;
        private int faultFound;
        private int faultPlace;

        boolean tellAll(byte[] tape, int n, Plan plan) {
            text = tape;
            end = Math.min(n, tape.length);
            at = 0;
            told = plan;
            told.clearAll();
            faultFound = 0;
            for (int line = 0; line <= end; line++) {
                takeToken();
                if (!tellLine()) {
                    return false;
                }
                takeToken();
                if (kind == END) {
                    return true;
                }
                if (kind != PART) {
                    return fail(FORM);
                }
            }
            return fail(FORM);
        }

        private boolean fail(int number) {
            faultFound = number;
            faultPlace = start;
            return false;
        }

        private void takeToken() {
            while (at < end && text[at] == ' ') {
                at++;
            }
            start = at;
            if (at >= end) {
                kind = END;
            } else if (text[at] == ';') {
                kind = PART;
                at++;
            } else if (text[at] >= 'a' && text[at] <= 'z') {
                takeRun('a', 'z');
                kind = at - start <= 8 ? NAME : BAD;
            } else if (text[at] >= '0' && text[at] <= '9') {
                takeRun('0', '9');
                kind = at - start <= 5 ? WHOLE : BAD;
            } else {
                kind = BAD;
            }
        }

        private void takeRun(char low, char high) {
            value = 0;
            while (at < end && text[at] >= low && text[at] <= high) {
                value = 10 * value + text[at] - low;
                at++;
            }
        }

        private boolean isName(String name) {
            if (kind != NAME || at - start != name.length()) {
                return false;
            }
            for (int k = 0; k < name.length(); k++) {
                if (text[start + k] != name.charAt(k)) {
                    return false;
                }
            }
            return true;
        }

        private boolean takeName(String name) {
            takeToken();
            return isName(name) || fail(FORM);
        }

        private boolean takeWhole() {
            takeToken();
            return kind == WHOLE || fail(FORM);
        }

        private boolean takeWithin(int low, int high) {
            return takeWhole() && (value >= low && value <= high || fail(BOUNDS));
        }

        private boolean tellLine() {
            if (isName("cache")) {
                return told.sets > 0 ? fail(AGAIN) : tellCache();
            }
            if (isName("line")) {
                return hasRoom(told.linesTold, LINES_TOLD) && tellWords();
            }
            if (isName("read")) {
                return hasRoom(told.steps, STEPS) && tellStep(false);
            }
            if (isName("write")) {
                return hasRoom(told.steps, STEPS) && tellStep(true);
            }
            if (isName("unsure")) {
                return hasRoom(told.unsure, UNSURE) && tellUnsure();
            }
            if (isName("saw")) {
                return hasRoom(told.seen, SEEN) && tellSeen();
            }
            return fail(FORM);
        }

        private boolean hasRoom(int have, int room) {
            if (have >= room) {
                return fail(MANY);
            }
            return told.sets > 0 || fail(LACKS);
        }

        private boolean tellCache() {
            if (!takeName("sets") || !takeWithin(1, 4)) {
                return false;
            }
            int sets = value;
            if (!takeName("ways") || !takeWithin(1, MOST_WAYS)) {
                return false;
            }
            int ways = value;
            takeToken();
            if (!isName("lately") && !isName("weighed")) {
                return fail(FORM);
            }
            told.sets = sets;
            told.ways = ways;
            told.weighed = isName("weighed");
            return true;
        }

        private boolean tellWords() {
            if (!takeWithin(0, LINES - 1)) {
                return false;
            }
            int l = value;
            if (told.toldAlready[l] == 1) {
                return fail(AGAIN);
            }
            for (int i = 0; i < PLACES; i++) {
                if (!takeWithin(0, WORD_END - 1)) {
                    return false;
                }
                told.memory[l * PLACES + i] = value;
            }
            told.toldAlready[l] = 1;
            told.linesTold++;
            return true;
        }

        private boolean tellStep(boolean writes) {
            if (!takeWithin(0, LINES - 1)) {
                return false;
            }
            int l = value;
            if (!takeWithin(0, PLACES - 1)) {
                return false;
            }
            int spot = l * PLACES + value;
            if (writes && !takeWithin(0, WORD_END - 1)) {
                return false;
            }
            told.stepSpot[told.steps] = spot;
            told.stepWord[told.steps] = writes ? value : NONE;
            told.steps++;
            return true;
        }

        private boolean tellUnsure() {
            if (!takeWithin(0, LINES - 1)) {
                return false;
            }
            int l = value;
            if (!takeWithin(0, PLACES - 1)) {
                return false;
            }
            int spot = l * PLACES + value;
            if (told.isUnsure(spot)) {
                return fail(AGAIN);
            }
            if (!takeWithin(0, WORD_END - 1)) {
                return false;
            }
            told.unsureSpot[told.unsure] = spot;
            told.unsureWord[told.unsure] = value;
            told.unsure++;
            return true;
        }

        private boolean tellSeen() {
            if (!takeWhole()) {
                return false;
            }
            int step = value;
            if (step >= told.steps) {
                return fail(UNTOLD);
            }
            if (told.isSeen(step)) {
                return fail(AGAIN);
            }
            takeToken();
            if (!isName("hit") && !isName("miss")) {
                return fail(FORM);
            }
            told.seenStep[told.seen] = step;
            told.seenHit[told.seen] = isName("hit") ? 1 : 0;
            told.seen++;
            return true;
        }
    }

    /** Memory and the SETS before it. A line that isn't DIRTY has the same words here and there. */
    private static final class Store {
        private int sets = 1;
        private int ways = 1;
        private boolean weighed;
        private boolean plain;
        private final int[] memory = new int[MEMORY];
        private final int[] words = new int[MEMORY];
        private final int[] used = new int[LINES];
        private final int[] last = new int[LINES];
        private final int[] shape = new int[LINES];
        private final int[] dirty = new int[LINES];
        private int clock;
        private int hits;
        private int victims;
        private int backs;

        void begin(Plan plan, int waysNow, boolean isPlain, int others) {
            sets = plan.sets;
            ways = waysNow;
            plain = isPlain;
            weighed = plan.weighed && !isPlain;
            System.arraycopy(plan.memory, 0, memory, 0, MEMORY);
            for (int u = 0; u < plan.unsure; u++) {
                if ((others >> u & 1) == 1) {
                    memory[plan.unsureSpot[u]] = plan.unsureWord[u];
                }
            }
            System.arraycopy(memory, 0, words, 0, MEMORY);
            Arrays.fill(used, 0);
            Arrays.fill(dirty, 0);
            clock = 0;
            countAnew();
        }

        void copyOf(Store other) {
            sets = other.sets;
            ways = other.ways;
            plain = other.plain;
            weighed = other.weighed;
            System.arraycopy(other.memory, 0, memory, 0, MEMORY);
            System.arraycopy(other.words, 0, words, 0, MEMORY);
            System.arraycopy(other.used, 0, used, 0, LINES);
            System.arraycopy(other.last, 0, last, 0, LINES);
            System.arraycopy(other.shape, 0, shape, 0, LINES);
            System.arraycopy(other.dirty, 0, dirty, 0, LINES);
            clock = other.clock;
            countAnew();
        }

        private void countAnew() {
            hits = 0;
            victims = 0;
            backs = 0;
        }

        int runSteps(Plan plan) {
            int hitBits = 0;
            for (int k = 0; k < plan.steps; k++) {
                if (use(plan.stepSpot[k], plan.stepWord[k])) {
                    hitBits |= 1 << k;
                }
            }
            return hitBits;
        }

        void perform(int kind, int spot, int word) {
            if (kind == DROP) {
                forgetLine(spot / PLACES);
            } else if (kind == CLEAN) {
                for (int l = 0; l < LINES; l++) {
                    writeBack(l);
                }
            } else {
                use(spot, word);
            }
        }

        /** A read, if the word is NONE, else a write; true if it HITS. */
        boolean use(int spot, int word) {
            int l = spot / PLACES;
            boolean hit = used[l] > 0;
            if (hit) {
                hits++;
            } else {
                shape[l] = plain ? RAW : Shape.shortest(words, l);
                makeRoomFor(l);
            }
            used[l]++;
            clock++;
            last[l] = clock;
            if (word >= 0) {
                words[spot] = word;
                dirty[l] = 1;
                shape[l] = plain ? RAW : Shape.shortest(words, l);
                makeRoomFor(l);
            }
            return hit;
        }

        private void makeRoomFor(int l) {
            int s = setOf(l);
            int tagLimit = plain ? ways : 2 * ways;
            int room = segmentRoom() - FORM_SEGMENTS[shape[l]];
            for (int gone = 0; gone < LINES; gone++) {
                if (tagsIn(s, l) < tagLimit && segmentsIn(s, l) <= room) {
                    return;
                }
                int v = nextVictim(s, l);
                if (v < 0) {
                    return;
                }
                victims++;
                forgetLine(v);
            }
        }

        private void forgetLine(int l) {
            writeBack(l);
            used[l] = 0;
        }

        private void writeBack(int l) {
            if (dirty[l] == 1) {
                System.arraycopy(words, l * PLACES, memory, l * PLACES, PLACES);
                dirty[l] = 0;
                backs++;
            }
        }

        int segmentRoom() {
            return 4 * ways;
        }

        int setOf(int l) {
            return sets < 1 ? 0 : l % sets;
        }

        int tagsIn(int s, int but) {
            int step = Math.max(sets, 1);
            int count = 0;
            for (int l = s; l < LINES; l += step) {
                if (used[l] > 0 && l != but) {
                    count++;
                }
            }
            return count;
        }

        int segmentsIn(int s, int but) {
            int step = Math.max(sets, 1);
            int count = 0;
            for (int l = s; l < LINES; l += step) {
                if (used[l] > 0 && l != but) {
                    count += FORM_SEGMENTS[shape[l]];
                }
            }
            return count;
        }

        int dirtyIn(int s) {
            int step = Math.max(sets, 1);
            int count = 0;
            for (int l = s; l < LINES; l += step) {
                count += dirty[l];
            }
            return count;
        }

        int usedSince(int l) {
            int step = Math.max(sets, 1);
            int count = 0;
            for (int m = setOf(l); m < LINES; m += step) {
                if (used[m] > 0 && last[m] > last[l]) {
                    count++;
                }
            }
            return count;
        }

        int nextVictim(int s, int but) {
            int step = Math.max(sets, 1);
            int best = NONE;
            for (int l = s; l < LINES; l += step) {
                if (used[l] > 0 && l != but && (best < 0 || goesAhead(l, best))) {
                    best = l;
                }
            }
            return best;
        }

        private boolean goesAhead(int l, int m) {
            if (weighed) {
                int mine = used[l] * FORM_SEGMENTS[shape[m]];
                int other = used[m] * FORM_SEGMENTS[shape[l]];
                if (mine != other) {
                    return mine < other;
                }
            }
            return last[l] < last[m];
        }
    }

    /** The ACTS that can be undone: where they begin, and they; UNDO does all but the latest again. */
    private static final class Past {
        private final Store root = new Store();
        private final int[] kinds = new int[KEPT];
        private final int[] spots = new int[KEPT];
        private final int[] words = new int[KEPT];
        private int kept;

        void forgetAll(Store now) {
            root.copyOf(now);
            kept = 0;
        }

        void doNext(Store now, int kind, int spot, int word) {
            now.perform(kind, spot, word);
            if (kept >= KEPT) {
                root.perform(kinds[0], spots[0], words[0]);
                System.arraycopy(kinds, 1, kinds, 0, KEPT - 1);
                System.arraycopy(spots, 1, spots, 0, KEPT - 1);
                System.arraycopy(words, 1, words, 0, KEPT - 1);
                kept = KEPT - 1;
            }
            kinds[kept] = kind;
            spots[kept] = spot;
            words[kept] = word;
            kept++;
        }

        boolean takeBack(Store now) {
            if (kept < 1) {
                return false;
            }
            kept--;
            now.copyOf(root);
            for (int k = 0; k < kept; k++) {
                now.perform(kinds[k], spots[k], words[k]);
            }
            return true;
        }
    }
}
