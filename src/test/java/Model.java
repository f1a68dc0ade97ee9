import java.math.BigInteger;
import java.util.ArrayDeque;
import java.util.ArrayList;
import java.util.Collections;
import java.util.Comparator;
import java.util.Deque;
import java.util.List;
import java.util.NoSuchElementException;
import java.util.TreeMap;
import java.util.regex.Matcher;
import java.util.regex.Pattern;

/**
 * The document over again, in another hand: whole copies for what is undone, lists in order of use, sums of any length
 * for lanes, all faults gathered and the least taken. ModelTest holds PackedCache against it.
 */
public final class Model {
    static final class Told {
        int sets;
        int ways;
        boolean weighed;
        TreeMap<Integer, int[]> lines = new TreeMap<>();
        List<int[]> steps = new ArrayList<>();
        List<int[]> unsure = new ArrayList<>();
        List<int[]> seen = new ArrayList<>();
    }

    static final class Tag {
        int line;
        int[] words;
        int used;
        boolean dirty;
        boolean raw;

        int segments() {
            return raw ? 4 : (BYTES[formOf(words)] + 3) / 4;
        }

        Tag copy() {
            Tag t = new Tag();
            t.line = line;
            t.words = words.clone();
            t.used = used;
            t.dirty = dirty;
            t.raw = raw;
            return t;
        }
    }

    /** The lists have the latest used first. */
    static final class Sim {
        int ways;
        int tagRoom;
        boolean weighed;
        boolean raw;
        int[][] memory = new int[32][8];
        List<List<Tag>> sets = new ArrayList<>();
        int hits;
        int victims;
        int backs;

        Sim(Told told, int ways, boolean plain, int others) {
            this.ways = ways;
            this.tagRoom = plain ? ways : 2 * ways;
            this.weighed = told.weighed && !plain;
            this.raw = plain;
            told.lines.forEach((l, w) -> memory[l] = w.clone());
            for (int u = 0; u < told.unsure.size(); u++) {
                if ((others & 1 << u) != 0) {
                    int[] it = told.unsure.get(u);
                    memory[it[0]][it[1]] = it[2];
                }
            }
            for (int s = 0; s < told.sets; s++) {
                sets.add(new ArrayList<>());
            }
        }

        Sim(Sim o) {
            ways = o.ways;
            tagRoom = o.tagRoom;
            weighed = o.weighed;
            raw = o.raw;
            for (int l = 0; l < 32; l++) {
                memory[l] = o.memory[l].clone();
            }
            for (List<Tag> s : o.sets) {
                List<Tag> mine = new ArrayList<>();
                for (Tag t : s) {
                    mine.add(t.copy());
                }
                sets.add(mine);
            }
        }

        List<Tag> home(int l) {
            return sets.get(l % sets.size());
        }

        Tag find(int l) {
            return home(l).stream().filter(t -> t.line == l).findFirst().orElse(null);
        }

        int[] now(int l) {
            Tag t = find(l);
            return t == null ? memory[l] : t.words;
        }

        static int taken(List<Tag> s) {
            return s.stream().mapToInt(Tag::segments).sum();
        }

        Tag choose(List<Tag> s, Tag never) {
            List<Tag> longest = new ArrayList<>(s);
            Collections.reverse(longest);
            longest.remove(never);
            if (longest.isEmpty()) {
                return null;
            }
            if (!weighed) {
                return longest.get(0);
            }
            Comparator<Tag> worth = (a, b) -> Long.compare((long) a.used * b.segments(), (long) b.used * a.segments());
            return Collections.min(longest, worth);
        }

        void go(List<Tag> s, Tag t) {
            if (t.dirty) {
                memory[t.line] = t.words.clone();
                backs++;
            }
            s.remove(t);
        }

        boolean use(int l, int i, int w) {
            List<Tag> s = home(l);
            Tag t = find(l);
            boolean hit = t != null;
            if (hit) {
                hits++;
                s.remove(t);
            } else {
                t = new Tag();
                t.line = l;
                t.words = memory[l].clone();
                t.raw = raw;
                while (s.size() >= tagRoom || taken(s) + t.segments() > 4 * ways) {
                    victims++;
                    go(s, choose(s, null));
                }
            }
            t.used++;
            s.add(0, t);
            if (w >= 0) {
                t.words[i] = w;
                t.dirty = true;
                while (taken(s) > 4 * ways) {
                    victims++;
                    go(s, choose(s, t));
                }
            }
            return hit;
        }

        List<Boolean> run(Told told) {
            List<Boolean> all = new ArrayList<>();
            for (int[] step : told.steps) {
                all.add(use(step[0], step[1], step[2]));
            }
            return all;
        }
    }

    static final int[] BYTES = {1, 2, 9, 11, 11, 13, 13, 16};
    static final int[] WIDTH = {0, 0, 4, 2, 8, 4, 8, 0};
    static final int[] DELTA = {0, 0, 1, 1, 1, 2, 2, 0};

    static List<Long> lanes(int[] words, int form) {
        int many = WIDTH[form] / 2;
        List<Long> all = new ArrayList<>();
        for (int from = 0; from < 8; from += many) {
            BigInteger sum = BigInteger.ZERO;
            for (int i = from; i < from + many; i++) {
                sum = sum.multiply(BigInteger.valueOf(65536)).add(BigInteger.valueOf(words[i]));
            }
            all.add(sum.longValue());
        }
        return all;
    }

    static boolean small(long v, int form) {
        return DELTA[form] == 1 ? (byte) v == v : (short) v == v;
    }

    static long baseOf(int[] words, int form) {
        return lanes(words, form).stream().filter(v -> !small(v, form)).findFirst().orElse(0L);
    }

    static boolean holds(int[] words, int form) {
        if (form == 7) {
            return true;
        }
        if (form < 2) {
            for (int w : words) {
                if (w != (form == 0 ? 0 : words[0])) {
                    return false;
                }
            }
            return true;
        }
        long from = baseOf(words, form);
        return lanes(words, form).stream().allMatch(v -> small(v, form) || small(v - from, form));
    }

    static int formOf(int[] words) {
        int best = 7;
        for (int f = 6; f >= 0; f--) {
            if (holds(words, f) && BYTES[f] <= BYTES[best]) {
                best = f;
            }
        }
        return best;
    }

    // ---- the text

    private static final class Reader {
        final List<String> tokens = new ArrayList<>();
        final List<Integer> places = new ArrayList<>();
        final List<int[]> faults = new ArrayList<>();
        final Told told = new Told();
        int at;

        Reader(String text) {
            Matcher m = Pattern.compile(" +|[a-z]+|[0-9]+|;|[\\s\\S]").matcher(text);
            while (m.find()) {
                String t = m.group();
                if (t.charAt(0) == ' ') {
                    continue;
                }
                boolean good = t.matches("[a-z]{1,8}|[0-9]{1,5}|;");
                tokens.add(good ? t : "?");
                places.add(m.start());
            }
            tokens.add("end");
            places.add(text.length());
            tokens.set(tokens.size() - 1, "");
        }

        String peek() {
            return tokens.get(at);
        }

        void fault(int number) {
            faults.add(new int[] {places.get(at), number});
        }

        static final class Stuck extends RuntimeException {
            private static final long serialVersionUID = 1;
        }

        String oneOf(String... words) {
            for (String w : words) {
                if (peek().equals(w)) {
                    at++;
                    return w;
                }
            }
            fault(1);
            throw new Stuck();
        }

        /** The bounds' fault is noted and the whole cut to them, so that reading can go on. */
        int whole(int low, int high) {
            if (!peek().matches("[0-9]+")) {
                fault(1);
                throw new Stuck();
            }
            int v = Integer.parseInt(peek());
            if (v < low || v > high) {
                fault(4);
            }
            at++;
            return Math.max(low, Math.min(high, v));
        }

        void again() {
            at--;
            fault(3);
            at++;
        }

        void line() {
            String sort = peek();
            boolean ahead = told.sets == 0;
            oneOf("cache", "line", "read", "write", "unsure", "saw");
            at--;
            if (!sort.equals("cache") && ahead) {
                fault(6);
            }
            if (sort.equals("cache") && !ahead) {
                fault(3);
            }
            int have = sort.equals("line") ? told.lines.size() : sort.equals("unsure") ? told.unsure.size()
                : sort.equals("saw") ? told.seen.size() : sort.equals("cache") ? 0 : told.steps.size();
            int room = sort.equals("unsure") ? 4 : sort.equals("saw") ? 6 : 16;
            if (have >= room) {
                fault(5);
            }
            at++;
            switch (sort) {
                case "cache" -> {
                    oneOf("sets");
                    int sets = whole(1, 4);
                    oneOf("ways");
                    told.ways = whole(1, 4);
                    told.weighed = oneOf("lately", "weighed").equals("weighed");
                    told.sets = sets;
                }
                case "line" -> {
                    int l = whole(0, 31);
                    if (told.lines.containsKey(l)) {
                        again();
                    }
                    int[] w = new int[8];
                    for (int i = 0; i < 8; i++) {
                        w[i] = whole(0, 65535);
                    }
                    told.lines.put(l, w);
                }
                case "read", "write" -> told.steps.add(new int[] {whole(0, 31), whole(0, 7), sort.equals("read") ? -1 : whole(0, 65535)});
                case "unsure" -> {
                    int l = whole(0, 31);
                    int i = whole(0, 7);
                    if (told.unsure.stream().anyMatch(u -> u[0] == l && u[1] == i)) {
                        again();
                    }
                    told.unsure.add(new int[] {l, i, whole(0, 65535)});
                }
                default -> {
                    int step = whole(0, 99999);
                    at--;
                    if (step >= told.steps.size()) {
                        fault(2);
                    }
                    if (told.seen.stream().anyMatch(u -> u[0] == step)) {
                        fault(3);
                    }
                    at++;
                    told.seen.add(new int[] {step, oneOf("hit", "miss").equals("hit") ? 1 : 0});
                }
            }
        }

        void all() {
            try {
                line();
                while (!peek().isEmpty()) {
                    oneOf(";");
                    line();
                }
                if (told.sets == 0) {
                    fault(6);
                }
            } catch (Stuck e) {
                return;
            }
        }
    }

    // ---- the face

    private StringBuilder tape = new StringBuilder();
    private Told told;
    private Sim now;
    private final Deque<Sim> past = new ArrayDeque<>();
    private final List<Sim> images = new ArrayList<>();
    private int trouble;
    private int fault;
    private int place;

    private int no(int why) {
        trouble = why;
        return -1;
    }

    private int ok(int v) {
        trouble = 0;
        return v;
    }

    private boolean in(int v, int low, int high) {
        return low <= v && v <= high;
    }

    public int feed(int a, int b, int c, int d, int e) {
        if (tape.length() + 20 > 1200) {
            return -1;
        }
        for (int v : new int[] {a, b, c, d, e}) {
            tape.append((char) (v >>> 24)).append((char) (v >>> 16 & 255)).append((char) (v >>> 8 & 255)).append((char) (v & 255));
        }
        return tape.length();
    }

    public int cache(int n) {
        if (!in(n, 0, tape.length())) {
            return no(2);
        }
        Reader r = new Reader(tape.substring(0, n));
        tape = new StringBuilder();
        r.all();
        r.faults.sort(Comparator.<int[]>comparingInt(f -> f[0]).thenComparingInt(f -> f[1]));
        if (!r.faults.isEmpty()) {
            place = r.faults.get(0)[0];
            fault = r.faults.get(0)[1];
            return no(4);
        }
        fault = 0;
        told = r.told;
        now = new Sim(told, told.ways, false, 0);
        past.clear();
        images.clear();
        return ok(told.steps.size());
    }

    public int fault() {
        return fault;
    }

    public int where() {
        return trouble == 4 ? place : -1;
    }

    private boolean noLine(int l) {
        return told == null || !in(l, 0, 31);
    }

    private boolean noPlace(int l, int i) {
        return noLine(l) || !in(i, 0, 7);
    }

    private boolean noSet(int s) {
        return told == null || !in(s, 0, told.sets - 1);
    }

    public int word(int l, int i) {
        return noPlace(l, i) ? no(1) : ok(now.now(l)[i]);
    }

    public int memory(int l, int i) {
        return noPlace(l, i) ? no(1) : ok(now.memory[l][i]);
    }

    public int form(int l) {
        return noLine(l) ? no(1) : ok(formOf(now.now(l)));
    }

    public int bytes(int l, int form) {
        return noLine(l) ? no(1) : !in(form, 0, 7) ? no(2) : ok(holds(now.now(l), form) ? BYTES[form] : -2);
    }

    public int forms(int l) {
        if (noLine(l)) {
            return no(1);
        }
        int n = 0;
        for (int f = 0; f < 8; f++) {
            n += holds(now.now(l), f) ? 1 : 0;
        }
        return ok(n);
    }

    public int segments(int l) {
        return noLine(l) ? no(1) : ok((int) Math.ceil(BYTES[formOf(now.now(l))] / 4.0));
    }

    public long base(int l, int form) {
        if (noLine(l) || !in(form, 2, 6)) {
            return no(noLine(l) ? 1 : 2);
        }
        ok(0);
        return baseOf(now.now(l), form);
    }

    public int mask(int l, int form) {
        if (noLine(l) || !in(form, 2, 6)) {
            return no(noLine(l) ? 1 : 2);
        }
        int bits = 0;
        List<Long> all = lanes(now.now(l), form);
        for (int k = 0; k < all.size(); k++) {
            bits += small(all.get(k), form) ? 1 << k : 0;
        }
        return ok(bits);
    }

    public long difference(int l, int form, int k) {
        if (noLine(l) || !in(form, 2, 6)) {
            return no(noLine(l) ? 1 : 2);
        }
        List<Long> all = lanes(now.now(l), form);
        if (!in(k, 0, all.size() - 1)) {
            return no(1);
        }
        ok(0);
        long v = all.get(k);
        return small(v, form) ? v : v - baseOf(now.now(l), form);
    }

    public int linesOf(int form) {
        if (told == null || !in(form, 0, 7)) {
            return no(told == null ? 1 : 2);
        }
        int n = 0;
        for (int l = 0; l < 32; l++) {
            n += formOf(now.now(l)) == form ? 1 : 0;
        }
        return ok(n);
    }

    public int set(int s, int what) {
        if (noSet(s) || !in(what, 0, 3)) {
            return no(1);
        }
        List<Tag> tags = now.sets.get(s);
        int taken = Sim.taken(tags);
        return ok(switch (what) {
            case 0 -> tags.size();
            case 1 -> taken;
            case 2 -> (int) tags.stream().filter(t -> t.dirty).count();
            default -> 4 * told.ways - taken;
        });
    }

    public int tag(int s, int k) {
        return noSet(s) || !in(k, 0, now.sets.get(s).size() - 1) ? no(1) : ok(now.sets.get(s).get(k).line);
    }

    public int cached(int l, int what) {
        if (noLine(l) || now.find(l) == null || !in(what, 0, 3)) {
            return no(1);
        }
        Tag t = now.find(l);
        return ok(switch (what) {
            case 0 -> l % told.sets;
            case 1 -> t.used;
            case 2 -> t.dirty ? 1 : 0;
            default -> now.home(l).indexOf(t);
        });
    }

    public int isCached(int l) {
        return noLine(l) ? no(1) : ok(now.find(l) == null ? 0 : 1);
    }

    public int victim(int s) {
        if (noSet(s)) {
            return no(1);
        }
        Tag t = now.choose(now.sets.get(s), null);
        return ok(t == null ? -2 : t.line);
    }

    public int makesRoom(int l) {
        if (noLine(l)) {
            return no(1);
        }
        Sim s = new Sim(now);
        s.use(l, 0, -1);
        return ok(s.victims);
    }

    public int growsOver(int l, int i, int word) {
        if (noPlace(l, i) || !in(word, 0, 65535)) {
            return no(noPlace(l, i) ? 1 : 2);
        }
        Sim s = new Sim(now);
        s.use(l, i, word);
        return ok(s.victims);
    }

    public long ratio(boolean lower) {
        if (told == null) {
            return no(1);
        }
        ok(0);
        BigInteger up = BigInteger.ZERO;
        BigInteger low = BigInteger.ZERO;
        for (List<Tag> s : now.sets) {
            for (Tag t : s) {
                up = up.add(BigInteger.valueOf(16));
                low = low.add(BigInteger.valueOf(BYTES[formOf(t.words)]));
            }
        }
        return low.signum() == 0 ? 1 : (lower ? low : up).divide(up.gcd(low)).longValue();
    }

    public int lines() {
        return told == null ? no(1) : ok(now.sets.stream().mapToInt(List::size).sum());
    }

    private Sim ran(int ways, boolean plain) {
        Sim s = new Sim(told, ways, plain, 0);
        s.run(told);
        return s;
    }

    public int runHits() {
        return told == null ? no(1) : ok(ran(told.ways, false).hits);
    }

    public int runVictims() {
        return told == null ? no(1) : ok(ran(told.ways, false).victims);
    }

    public int runBacks() {
        return told == null ? no(1) : ok(ran(told.ways, false).backs);
    }

    public int runStep(int k) {
        if (told == null || !in(k, 0, told.steps.size() - 1)) {
            return no(1);
        }
        return ok(new Sim(told, told.ways, false, 0).run(told).get(k) ? 1 : 0);
    }

    public int plainHits() {
        return told == null ? no(1) : ok(ran(told.ways, true).hits);
    }

    public int plainBacks() {
        return told == null ? no(1) : ok(ran(told.ways, true).backs);
    }

    public int hitsBy(int ways) {
        return told == null ? no(1) : !in(ways, 1, 4) ? no(2) : ok(ran(ways, false).hits);
    }

    public int waysFor(int n) {
        if (told == null || !in(n, 0, 16)) {
            return no(told == null ? 1 : 2);
        }
        for (int w = 1; w < 5; w++) {
            if (ran(w, false).hits >= n) {
                return ok(w);
            }
        }
        return ok(-2);
    }

    private int firstWrong(int others) {
        List<Boolean> hits = new Sim(told, told.ways, false, others).run(told);
        for (int k = 0; k < told.seen.size(); k++) {
            if (hits.get(told.seen.get(k)[0]) != (told.seen.get(k)[1] == 1)) {
                return k;
            }
        }
        return -2;
    }

    private List<Integer> all() {
        List<Integer> all = new ArrayList<>();
        for (int others = 0; others < 1 << told.unsure.size(); others++) {
            if (firstWrong(others) == -2) {
                all.add(others);
            }
        }
        return all;
    }

    public int fits() {
        return told == null ? no(1) : ok(all().size());
    }

    public int fitAt(int i) {
        return told == null || !in(i, 0, all().size() - 1) ? no(1) : ok(all().get(i));
    }

    public int could() {
        return told == null ? no(1) : ok(all().stream().reduce(0, (a, b) -> a | b));
    }

    public int surely() {
        return told == null ? no(1) : ok(all().stream().reduce((a, b) -> a & b).orElse(0));
    }

    private int[] asked() {
        int[] best = {-2, -2};
        List<Integer> all = all();
        for (int u = told.unsure.size() - 1; u >= 0 && !all.isEmpty(); u--) {
            int bit = 1 << u;
            int with = (int) all.stream().filter(f -> (f & bit) != 0).count();
            int left = Math.max(with, all.size() - with);
            if (best[1] < 0 || left <= best[1]) {
                best = new int[] {u, left};
            }
        }
        return best;
    }

    public int ask() {
        return told == null ? no(1) : ok(asked()[0]);
    }

    public int askLeaves() {
        return told == null ? no(1) : ok(asked()[1]);
    }

    public int judge() {
        return told == null ? no(1) : ok(firstWrong(0));
    }

    private Sim drawn(int seed, int n) {
        Sim s = new Sim(now);
        int[] state = {seed};
        for (int k = 0; k < n; k++) {
            int l = draw(state) % 32;
            if (draw(state) % 4 == 0) {
                int i = draw(state) % 8;
                s.use(l, i, draw(state) % 300);
            } else {
                s.use(l, 0, -1);
            }
        }
        return s;
    }

    private static int draw(int[] state) {
        state[0] = (int) ((75L * state[0] + 74) % 65537);
        return state[0];
    }

    public int drawnHits(int seed, int n) {
        return told == null ? no(1) : !in(seed, 0, 65536) || !in(n, 0, 200) ? no(2) : ok(drawn(seed, n).hits);
    }

    public int drawnBacks(int seed, int n) {
        return told == null ? no(1) : !in(seed, 0, 65536) || !in(n, 0, 200) ? no(2) : ok(drawn(seed, n).backs);
    }

    private void keep() {
        past.push(new Sim(now));
        if (past.size() > 16) {
            past.removeLast();
        }
    }

    public int read(int l, int i) {
        if (noPlace(l, i)) {
            return no(1);
        }
        keep();
        now.use(l, i, -1);
        return ok(now.now(l)[i]);
    }

    public int write(int l, int i, int word) {
        if (noPlace(l, i) || !in(word, 0, 65535)) {
            return no(noPlace(l, i) ? 1 : 2);
        }
        keep();
        now.use(l, i, word);
        return ok(formOf(now.now(l)));
    }

    public int drop(int l) {
        if (noLine(l) || now.find(l) == null) {
            return no(noLine(l) ? 1 : 5);
        }
        keep();
        Tag t = now.find(l);
        now.go(now.home(l), t);
        return ok(t.dirty ? 1 : 0);
    }

    private List<Integer> dirty() {
        List<Integer> all = new ArrayList<>();
        if (told != null) {
            now.sets.forEach(s -> s.stream().filter(t -> t.dirty).forEach(t -> all.add(t.line)));
        }
        Collections.sort(all);
        return all;
    }

    public int clean() {
        if (told == null || dirty().isEmpty()) {
            return no(told == null ? 1 : 6);
        }
        keep();
        List<Integer> all = dirty();
        for (int l : all) {
            now.memory[l] = now.find(l).words.clone();
            now.find(l).dirty = false;
        }
        return ok(all.size());
    }

    public boolean undo() {
        if (past.isEmpty()) {
            no(6);
            return false;
        }
        now = past.pop();
        ok(0);
        return true;
    }

    public int image() {
        if (told == null || images.size() == 3) {
            return no(told == null ? 1 : 3);
        }
        images.add(new Sim(now));
        return ok(images.size() - 1);
    }

    public boolean back(int image) {
        if (!in(image, 0, images.size() - 1)) {
            no(1);
            return false;
        }
        now = new Sim(images.get(image));
        past.clear();
        ok(0);
        return true;
    }

    public int led(int i) {
        List<Integer> all = dirty();
        if (!in(i, 0, all.size() - 1)) {
            throw new NoSuchElementException();
        }
        return all.get(i);
    }

    public int size(int what) {
        if (what == 7 || what == 8 || what == 9) {
            return what == 7 ? past.size() : what == 8 ? images.size() : tape.length();
        }
        if (!in(what, 0, 6) || told == null) {
            return in(what, 0, 6) ? 0 : -1;
        }
        return new int[] {told.sets, told.ways, told.weighed ? 1 : 0, told.lines.size(), told.steps.size(), told.unsure.size(), told.seen.size()}[what];
    }

    public int trouble() {
        return trouble;
    }
}
