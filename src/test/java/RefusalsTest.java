import java.util.NoSuchElementException;

/** Each call that may be refused, by each number told of it, and what trouble(), where() and fault() answer then (Terms IV). */
public final class RefusalsTest {
    private static final int NONE = PackedCache.NONE;
    private static final int MIN = Integer.MIN_VALUE;
    private static final int MAX = Integer.MAX_VALUE;
    private static final Check c = new Check("refusals");

    private static final String TEXT = "cache sets 3 ways 2 weighed;line 1 7 7 7 7 7 7 7 7;read 0 0;write 1 0 5;read 0 0"
        + ";unsure 0 0 300;unsure 1 0 300;saw 2 hit";

    /** A call; false counts as NONE, and true as 1. */
    private interface Call {
        long on(PackedCache x);
    }

    public static void main(String[] args) {
        withoutCache();
        lines();
        sets();
        runs();
        acts();
        images();
        caches();
        answered();
        neverRefused();
        oneAheadOfTwo();
        c.end();
    }

    private static long of(boolean answer) {
        return answer ? 1 : NONE;
    }

    /** A CACHE with lines CACHED and DIRTY, ACTS to undo and an IMAGE. */
    private static PackedCache told() {
        PackedCache x = Check.of(TEXT);
        x.read(0, 0);
        x.write(1, 0, 9);
        x.image();
        x.write(4, 1, 60000);
        x.lines();
        return x;
    }

    /** All that can be seen of an object but the call's own trouble. */
    private static String seen(PackedCache x) {
        StringBuilder all = new StringBuilder();
        for (int what = 0; what < 10; what++) {
            all.append(x.size(what)).append(' ');
        }
        for (int l = 0; l < 6; l++) {
            all.append(x.word(l, 0)).append(' ').append(x.word(l, 1)).append(' ').append(x.memory(l, 0)).append(' ');
            all.append(x.cached(l, 1)).append(' ').append(x.cached(l, 2)).append(' ').append(x.cached(l, 3)).append(' ');
        }
        for (int s = 0; s < 3; s++) {
            all.append(x.victim(s)).append(' ');
        }
        return all.append(x.runHits()).append(' ').append(x.fits()).append(' ').append(x.ratio(true)).toString();
    }

    /** Refused with a CACHE: told after an answered call, and after a FAULT, whose place is told no more then. */
    private static void refused(String name, int trouble, Call call) {
        refused(name, trouble, told(), call);
        PackedCache x = told();
        Check.tell(x, "  cache sets 1 ways 9");
        c.due(name + ": a FAULT's place ahead", x.where(), 20);
        refused(name, trouble, x, call);
    }

    private static void refused(String name, int trouble, PackedCache x, Call call) {
        int fault = x.fault();
        c.due(name, call.on(x), NONE);
        c.due(name + ": trouble()", x.trouble(), trouble);
        c.due(name + ": where()", x.where(), NONE);
        c.due(name + ": fault()", x.fault(), fault);
        c.due(name + ": trouble() again", x.trouble(), trouble);
        String before = seen(x);
        call.on(x);
        c.due(name + ": all is as it was", seen(x).equals(before), true);
        x.form(0);
        c.due(name + ": trouble() of the next", x.trouble(), x.size(0) == 0 ? 1 : 0);
    }

    // no CACHE: all but cache() and undo() are refused by 1, whatever their numbers
    private static void withoutCache() {
        for (int n : new int[] {0, 1, 2, -1, 300, MIN, MAX}) {
            none("word", 1, x -> x.word(n, n));
            none("memory", 1, x -> x.memory(n, n));
            none("form", 1, x -> x.form(n));
            none("bytes", 1, x -> x.bytes(n, n));
            none("forms", 1, x -> x.forms(n));
            none("segments", 1, x -> x.segments(n));
            none("base", 1, x -> x.base(n, n));
            none("mask", 1, x -> x.mask(n, n));
            none("difference", 1, x -> x.difference(n, n, n));
            none("linesOf", 1, x -> x.linesOf(n));
            none("set", 1, x -> x.set(n, n));
            none("tag", 1, x -> x.tag(n, n));
            none("cached", 1, x -> x.cached(n, n));
            none("isCached", 1, x -> x.isCached(n));
            none("victim", 1, x -> x.victim(n));
            none("makesRoom", 1, x -> x.makesRoom(n));
            none("growsOver", 1, x -> x.growsOver(n, n, n));
            none("runStep", 1, x -> x.runStep(n));
            none("hitsBy", 1, x -> x.hitsBy(n));
            none("waysFor", 1, x -> x.waysFor(n));
            none("fitAt", 1, x -> x.fitAt(n));
            none("drawnHits", 1, x -> x.drawnHits(n, n));
            none("drawnBacks", 1, x -> x.drawnBacks(n, n));
            none("read", 1, x -> x.read(n, n));
            none("write", 1, x -> x.write(n, n, n));
            none("drop", 1, x -> x.drop(n));
            none("back", 1, x -> of(x.back(n)));
        }
        none("ratio upper", 1, x -> x.ratio(false));
        none("ratio lower", 1, x -> x.ratio(true));
        none("lines", 1, PackedCache::lines);
        none("runHits", 1, PackedCache::runHits);
        none("runVictims", 1, PackedCache::runVictims);
        none("runBacks", 1, PackedCache::runBacks);
        none("plainHits", 1, PackedCache::plainHits);
        none("plainBacks", 1, PackedCache::plainBacks);
        none("fits", 1, PackedCache::fits);
        none("could", 1, PackedCache::could);
        none("surely", 1, PackedCache::surely);
        none("ask", 1, PackedCache::ask);
        none("askLeaves", 1, PackedCache::askLeaves);
        none("judge", 1, PackedCache::judge);
        none("clean", 1, PackedCache::clean);
        none("image", 1, PackedCache::image);
        none("undo", 6, x -> of(x.undo()));
        none("cache too small", 2, x -> x.cache(-1));
        none("cache too large", 2, x -> x.cache(1));
    }

    /** Without a CACHE: on a new object, and behind a text with a FAULT. */
    private static void none(String name, int trouble, Call call) {
        refused("new: " + name, trouble, new PackedCache(), call);
        PackedCache x = new PackedCache();
        Check.tell(x, "  saw 1");
        c.due("a FAULT", x.fault(), 6);
        c.due("a FAULT's place", x.where(), 2);
        refused("faulty: " + name, trouble, x, call);
    }

    private static void lines() {
        for (int n : new int[] {-1, 32, MIN, MAX}) {
            refused("word of line " + n, 1, x -> x.word(n, 0));
            refused("memory of line " + n, 1, x -> x.memory(n, 0));
            refused("form of line " + n, 1, x -> x.form(n));
            refused("bytes of line " + n, 1, x -> x.bytes(n, 0));
            refused("forms of line " + n, 1, x -> x.forms(n));
            refused("segments of line " + n, 1, x -> x.segments(n));
            refused("base of line " + n, 1, x -> x.base(n, 2));
            refused("mask of line " + n, 1, x -> x.mask(n, 2));
            refused("difference of line " + n, 1, x -> x.difference(n, 2, 0));
            refused("cached of line " + n, 1, x -> x.cached(n, 0));
            refused("isCached of line " + n, 1, x -> x.isCached(n));
            refused("makesRoom of line " + n, 1, x -> x.makesRoom(n));
            refused("growsOver of line " + n, 1, x -> x.growsOver(n, 0, 0));
        }
        for (int n : new int[] {-1, 8, MIN, MAX}) {
            refused("word of place " + n, 1, x -> x.word(0, n));
            refused("memory of place " + n, 1, x -> x.memory(0, n));
            refused("growsOver of place " + n, 1, x -> x.growsOver(0, n, 0));
            refused("bytes by FORM " + n, 2, x -> x.bytes(0, n));
            refused("linesOf FORM " + n, 2, x -> x.linesOf(n));
            refused("difference of LANE " + n, 1, x -> x.difference(0, 3, n));
        }
        for (int n : new int[] {-1, 0, 1, 7, 8, MIN, MAX}) {
            refused("base by FORM " + n, 2, x -> x.base(0, n));
            refused("mask by FORM " + n, 2, x -> x.mask(0, n));
            refused("difference by FORM " + n, 2, x -> x.difference(0, n, 0));
        }
        refused("difference of a fifth of four", 1, x -> x.difference(0, 2, 4));
        refused("difference of a third of two", 1, x -> x.difference(0, 4, 2));
        refused("difference of a fifth of four by 2", 1, x -> x.difference(0, 5, 4));
        refused("difference of a third of two by 2", 1, x -> x.difference(0, 6, 2));
        for (int n : new int[] {-1, 65536, MIN, MAX}) {
            refused("growsOver of WORD " + n, 2, x -> x.growsOver(0, 0, n));
        }
    }

    private static void sets() {
        for (int n : new int[] {-1, 3, MIN, MAX}) {
            refused("set " + n, 1, x -> x.set(n, 0));
            refused("tag of SET " + n, 1, x -> x.tag(n, 0));
            refused("victim of SET " + n, 1, x -> x.victim(n));
        }
        for (int n : new int[] {-1, 4, MIN, MAX}) {
            refused("set's what " + n, 1, x -> x.set(0, n));
            refused("cached's what " + n, 1, x -> x.cached(0, n));
        }
        for (int n : new int[] {-1, 2, MIN, MAX}) {
            refused("tag " + n, 1, x -> x.tag(1, n));
        }
        refused("tag of an empty SET", 1, x -> x.tag(2, 0));
        for (int what = 0; what < 4; what++) {
            int w = what;
            refused("cached of a line that isn't", 1, x -> x.cached(2, w));
        }
    }

    private static void runs() {
        for (int n : new int[] {-1, 3, 16, MIN, MAX}) {
            refused("runStep " + n, 1, x -> x.runStep(n));
        }
        for (int n : new int[] {-1, 0, 5, MIN, MAX}) {
            refused("hitsBy " + n, 2, x -> x.hitsBy(n));
        }
        for (int n : new int[] {-1, 17, MIN, MAX}) {
            refused("waysFor " + n, 2, x -> x.waysFor(n));
        }
        for (int n : new int[] {-1, 4, 16, MIN, MAX}) {
            refused("fitAt " + n, 1, x -> x.fitAt(n));
        }
        for (int n : new int[] {-1, 65537, MIN, MAX}) {
            refused("drawnHits by SEED " + n, 2, x -> x.drawnHits(n, 0));
            refused("drawnBacks by SEED " + n, 2, x -> x.drawnBacks(n, 0));
        }
        for (int n : new int[] {-1, 201, MIN, MAX}) {
            refused("drawnHits of USES " + n, 2, x -> x.drawnHits(0, n));
            refused("drawnBacks of USES " + n, 2, x -> x.drawnBacks(0, n));
        }
    }

    private static void acts() {
        for (int n : new int[] {-1, 32, MIN, MAX}) {
            refused("read of line " + n, 1, x -> x.read(n, 0));
            refused("write of line " + n, 1, x -> x.write(n, 0, 0));
            refused("drop of line " + n, 1, x -> x.drop(n));
        }
        for (int n : new int[] {-1, 8, MIN, MAX}) {
            refused("read of place " + n, 1, x -> x.read(0, n));
            refused("write of place " + n, 1, x -> x.write(0, n, 0));
        }
        for (int n : new int[] {-1, 65536, MIN, MAX}) {
            refused("write of WORD " + n, 2, x -> x.write(0, 0, n));
        }
        for (int l : new int[] {2, 3, 5, 31}) {
            refused("drop of a line not CACHED", 5, x -> x.drop(l));
        }
        PackedCache clean = Check.of(TEXT);
        refused("clean, nothing CACHED", 6, clean, PackedCache::clean);
        refused("undo, no ACT", 6, clean, x -> of(x.undo()));
        clean = Check.of(TEXT);
        clean.read(0, 0);
        refused("clean, none DIRTY", 6, clean, PackedCache::clean);
        clean.write(0, 0, 1);
        clean.clean();
        refused("clean, all cleaned", 6, clean, PackedCache::clean);
        clean.image();
        clean.back(0);
        refused("undo, gone back", 6, clean, x -> of(x.undo()));
    }

    private static void images() {
        PackedCache full = told();
        full.image();
        full.image();
        refused("image, three there", 3, full, PackedCache::image);
        for (int n : new int[] {-1, 3, MIN, MAX}) {
            refused("back to " + n + " of three", 1, full, x -> of(x.back(n)));
        }
        for (int n : new int[] {-1, 1, 2, 3, MIN, MAX}) {
            refused("back to " + n + " of one", 1, x -> of(x.back(n)));
        }
    }

    // cache() by 2 leaves the FAULT of the one ahead, by 4 it tells its own
    private static void caches() {
        for (int n : new int[] {-1, 1, 20, 1200, MIN, MAX}) {
            refused("cache(" + n + ")", 2, x -> x.cache(n));
        }
        String[] texts = {"", ";", "cache sets 1 ways 1 lately;saw 5", "cache sets 1 ways 1 lately;cache", "cache sets 7",
            "cache sets 1 ways 1 lately" + ";read 0 0".repeat(17), "write"};
        int[] faults = {1, 1, 2, 3, 4, 5, 6};
        int[] places = {0, 0, 31, 27, 11, 27 + 9 * 16, 0};
        PackedCache x = told();
        for (int k = 0; k < texts.length; k++) {
            String before = seen(x);
            c.refused("cache of: " + texts[k], x, Check.tell(x, texts[k]), 4);
            c.due("fault()", x.fault(), faults[k]);
            c.due("where()", x.where(), places[k]);
            c.due("where() again", x.where(), places[k]);
            c.due("trouble() after both", x.trouble(), 4);
            c.due("all is as it was", seen(x).equals(before), true);
            c.due("fault() later", x.fault(), faults[k]);
            c.due("where() later", x.where(), NONE);
            x.cache(MAX);
            c.due("fault() after 2", x.fault(), faults[k]);
            c.due("where() after 2", x.where(), NONE);
        }
        c.passed("cache", x, Check.tell(x, TEXT), 3);
        c.due("no FAULT", x.fault(), 0);
        x.cache(1);
        c.due("no FAULT after 2", x.fault(), 0);
    }

    // each call that may be refused, answered: no trouble, no place, and the FAULT stays
    private static void answered() {
        Call[] calls = {x -> x.word(0, 0), x -> x.memory(0, 0), x -> x.form(0), x -> x.bytes(0, 7), x -> x.bytes(1, 0),
            x -> x.forms(0), x -> x.segments(0), x -> x.base(0, 2), x -> x.mask(0, 2), x -> x.difference(0, 2, 0),
            x -> x.linesOf(0), x -> x.set(0, 0), x -> x.set(0, 1), x -> x.set(0, 2), x -> x.set(0, 3), x -> x.tag(0, 0),
            x -> x.cached(0, 0), x -> x.cached(0, 1), x -> x.cached(0, 2), x -> x.cached(0, 3), x -> x.isCached(0),
            x -> x.isCached(9), x -> x.victim(0), x -> x.victim(2), x -> x.makesRoom(0), x -> x.growsOver(0, 0, 0),
            x -> x.ratio(true), x -> x.ratio(false), PackedCache::lines, PackedCache::runHits, PackedCache::runVictims,
            PackedCache::runBacks, x -> x.runStep(0), PackedCache::plainHits, PackedCache::plainBacks, x -> x.hitsBy(1),
            x -> x.waysFor(0), x -> x.waysFor(16), PackedCache::fits, x -> x.fitAt(0), PackedCache::could,
            PackedCache::surely, PackedCache::ask, PackedCache::askLeaves, PackedCache::judge, x -> x.drawnHits(0, 0),
            x -> x.drawnBacks(0, 0), x -> x.read(0, 0), x -> x.write(0, 0, 0), x -> x.drop(0), PackedCache::clean,
            x -> of(x.undo()), PackedCache::image, x -> of(x.back(0))};
        for (int k = 0; k < calls.length; k++) {
            PackedCache x = told();
            Check.tell(x, "cache sets 1 ways 9");
            c.due("answered " + k, calls[k].on(x) != NONE, true);
            c.due("answered " + k + ": trouble()", x.trouble(), 0);
            c.due("answered " + k + ": where()", x.where(), NONE);
            c.due("answered " + k + ": fault()", x.fault(), 4);
        }
    }

    // feed, fault, where, led, size and trouble tell no number, so they leave trouble() and where() alone
    private static void neverRefused() {
        Call[] calls = {x -> x.feed(1, 2, 3, 4, 5), PackedCache::fault, PackedCache::where, x -> x.led(0), x -> x.size(0),
            x -> x.size(10), x -> x.size(-1), PackedCache::trouble, RefusalsTest::noneLed, RefusalsTest::feedBeyond};
        for (int k = 0; k < calls.length; k++) {
            PackedCache x = told();
            Check.tell(x, "cache sets 1 ways 9");
            calls[k].on(x);
            c.due("not refused " + k + ": trouble()", x.trouble(), 4);
            c.due("not refused " + k + ": where()", x.where(), 18);
            c.due("not refused " + k + ": fault()", x.fault(), 4);
            x.drop(31);
            calls[k].on(x);
            c.due("not refused " + k + ": trouble() of 5", x.trouble(), 5);
            x.lines();
            calls[k].on(x);
            c.due("not refused " + k + ": trouble() of none", x.trouble(), 0);
        }
    }

    private static long noneLed(PackedCache x) {
        try {
            return x.led(31);
        } catch (NoSuchElementException e) {
            return NONE;
        }
    }

    private static long feedBeyond(PackedCache x) {
        int many = x.feed(1, 2, 3, 4, 5);
        while (many != NONE) {
            many = x.feed(1, 2, 3, 4, 5);
        }
        return many;
    }

    // of two numbers that both hold, the one told first
    private static void oneAheadOfTwo() {
        refused("bytes", 1, x -> x.bytes(32, 8));
        refused("base", 1, x -> x.base(-1, 7));
        refused("mask", 1, x -> x.mask(32, 1));
        refused("difference", 1, x -> x.difference(32, 7, 9));
        refused("difference, FORM and LANE", 2, x -> x.difference(0, 7, 9));
        refused("growsOver", 1, x -> x.growsOver(0, 8, 65536));
        refused("growsOver, line", 1, x -> x.growsOver(32, 0, -1));
        refused("write", 1, x -> x.write(0, 8, 65536));
        refused("write, line", 1, x -> x.write(32, 0, -1));
    }
}
