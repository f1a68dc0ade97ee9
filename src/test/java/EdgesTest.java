import java.util.NoSuchElementException;

/** The edges of what a CACHE, once told, answers (Terms II to IV, promises 6 to 50), each with a test of its own. */
public final class EdgesTest {
    private static final int NONE = PackedCache.NONE;
    private static final int MIN = Integer.MIN_VALUE;
    private static final int MAX = Integer.MAX_VALUE;
    private static final String RAW = " 1 60000 2 5000 3 40000 4 20000";
    private static final Check c = new Check("edges");

    /** A call of one number. */
    private interface Call {
        long on(PackedCache x, int n);
    }

    public static void main(String[] args) {
        lines();
        places();
        sets();
        tags();
        whats();
        forms();
        lanes();
        ways();
        steps();
        numbersOfHits();
        fitsByNumber();
        seeds();
        numbersOfUses();
        wordsWritten();
        signs();
        roundAndRound();
        smallOnes();
        emptySet();
        fullOfTags();
        fullOfSegments();
        growsToTheLastSegment();
        growsBeyond();
        growsOnAMiss();
        shrinks();
        neverBelowTheirBytes();
        noUnsureWord();
        noFits();
        sixSeen();
        noSteps();
        eachRunAlone();
        waysUpToFour();
        runsByWordsAsTold();
        alikeByWeight();
        reckonedAfterPlain();
        drawnAsActs();
        sixteenActs();
        refusedActsAreNotKept();
        undoneActs();
        threeImages();
        imagesOfEachCache();
        manyActsBehindAnImage();
        led();
        c.end();
    }

    private static PackedCache fresh() {
        return Check.of("cache sets 4 ways 4 lately;read 0 0;read 31 7;line 31 65535 1 2 3 4 5 6 7");
    }

    /** From low to high a call is answered; one beyond on each side, and as far as numbers go, it is refused. */
    private static void within(String name, PackedCache x, Call call, int low, int high, int trouble) {
        for (int n = low; n <= high; n += high - low > 300 ? high - low : 1) {
            call.on(x, n);
            c.due(name + "(.. " + n + " ..) trouble", x.trouble(), 0);
        }
        for (int n : new int[] {low - 1, high + 1, MIN, MAX}) {
            x.lines();
            c.refused(name + "(.. " + n + " ..)", x, call.on(x, n), trouble);
        }
    }

    private static void lines() {
        PackedCache x = fresh();
        within("word", x, (y, l) -> y.word(l, 0), 0, 31, 1);
        within("memory", x, (y, l) -> y.memory(l, 7), 0, 31, 1);
        within("form", x, PackedCache::form, 0, 31, 1);
        within("bytes", x, (y, l) -> y.bytes(l, 7), 0, 31, 1);
        within("forms", x, PackedCache::forms, 0, 31, 1);
        within("segments", x, PackedCache::segments, 0, 31, 1);
        within("base", x, (y, l) -> y.base(l, 2), 0, 31, 1);
        within("mask", x, (y, l) -> y.mask(l, 6), 0, 31, 1);
        within("difference", x, (y, l) -> y.difference(l, 3, 7), 0, 31, 1);
        within("isCached", x, PackedCache::isCached, 0, 31, 1);
        within("makesRoom", x, PackedCache::makesRoom, 0, 31, 1);
        within("growsOver", x, (y, l) -> y.growsOver(l, 0, 0), 0, 31, 1);
        // 32 lines of ZERO, but for one, are all CACHED in 4 SETS of 8 TAGS
        within("read", x, (y, l) -> y.read(l, 0), 0, 31, 1);
        c.passed("all are CACHED", x, x.lines(), 32);
        within("cached", x, (y, l) -> y.cached(l, 0), 0, 31, 1);
        within("write", x, (y, l) -> y.write(l, 7, 0), 0, 31, 1);
        within("drop", x, PackedCache::drop, 0, 31, 1);
        c.passed("none is", x, x.lines(), 0);
        c.passed("line 31", x, x.word(31, 0), 65535);
    }

    private static void places() {
        PackedCache x = fresh();
        for (int l : new int[] {0, 31}) {
            within("word", x, (y, i) -> y.word(l, i), 0, 7, 1);
            within("memory", x, (y, i) -> y.memory(l, i), 0, 7, 1);
            within("growsOver", x, (y, i) -> y.growsOver(l, i, 1), 0, 7, 1);
            within("read", x, (y, i) -> y.read(l, i), 0, 7, 1);
            within("write", x, (y, i) -> y.write(l, i, 1), 0, 7, 1);
        }
        c.passed("line 0, up to its place 7", x, x.form(0), 1);
        c.passed("line 31, up to its place 7", x, x.form(31), 1);
        c.passed("line 30 is another", x, x.form(30), 0);
    }

    private static void sets() {
        for (int sets = 1; sets <= 4; sets++) {
            PackedCache x = Check.of("cache sets " + sets + " ways 1 lately");
            for (int l = 0; l < sets; l++) {
                x.read(l, 0);
            }
            within("set", x, (y, s) -> y.set(s, 0), 0, sets - 1, 1);
            within("tag", x, (y, s) -> y.tag(s, 0), 0, sets - 1, 1);
            within("victim", x, PackedCache::victim, 0, sets - 1, 1);
            for (int l = 0; l < sets; l++) {
                c.passed("line " + l + " mod " + sets, x, x.cached(l, 0), l);
            }
            x.read(sets, 0);
            c.passed("line " + sets + " mod " + sets, x, x.cached(sets, 0), 0);
            x.read(31, 0);
            c.passed("line 31 mod " + sets, x, x.cached(31, 0), 31 % sets);
        }
    }

    private static void tags() {
        for (int ways = 1; ways <= 4; ways++) {
            PackedCache x = Check.of("cache sets 2 ways " + ways + " lately");
            for (int k = 0; k <= 2 * ways; k++) {
                int many = k;
                within("tag of " + many, x, (y, t) -> y.tag(1, t), 0, many - 1, 1);
                c.passed("TAGS", x, x.set(1, 0), many);
                x.read(2 * k + 1, 0);
                c.passed("the latest ahead", x, x.tag(1, 0), 2 * k + 1);
            }
            c.passed("twice ways TAGS", x, x.set(1, 0), 2 * ways);
            c.refused("twice ways and one", x, x.tag(1, 2 * ways), 1);
            c.passed("the last", x, x.tag(1, 2 * ways - 1), 3);
        }
    }

    private static void whats() {
        PackedCache x = fresh();
        x.write(31, 0, 0);
        within("set's what", x, (y, what) -> y.set(3, what), 0, 3, 1);
        within("cached's what", x, (y, what) -> y.cached(31, what), 0, 3, 1);
        for (int what = 0; what <= 9; what++) {
            c.due("size(" + what + ")", x.size(what) >= 0, true);
        }
        for (int what : new int[] {-1, 10, MIN, MAX}) {
            c.due("size(" + what + ")", x.size(what), NONE);
        }
    }

    private static void forms() {
        PackedCache x = fresh();
        for (int l : new int[] {0, 31}) {
            within("bytes", x, (y, f) -> y.bytes(l, f), 0, 7, 2);
            within("base", x, (y, f) -> y.base(l, f), 2, 6, 2);
            within("mask", x, (y, f) -> y.mask(l, f), 2, 6, 2);
            within("difference", x, (y, f) -> y.difference(l, f, 0), 2, 6, 2);
        }
        within("linesOf", x, PackedCache::linesOf, 0, 7, 2);
    }

    private static void lanes() {
        PackedCache x = fresh();
        int[] many = {0, 0, 4, 8, 2, 4, 2};
        for (int form = 2; form <= 6; form++) {
            int f = form;
            within("difference by " + f, x, (y, k) -> y.difference(31, f, k), 0, many[f] - 1, 1);
            within("difference by " + f, x, (y, k) -> y.difference(0, f, k), 0, many[f] - 1, 1);
            c.passed("a MASK of all by " + f, x, x.mask(0, f), (1 << many[f]) - 1);
        }
        c.passed("the last of width 2", x, x.difference(31, 3, 7), 7);
        c.passed("the last of width 4", x, x.difference(31, 2, 3), 6 * 65536 + 7 - (65535L * 65536 + 1));
        c.passed("the first of width 8 is SMALL by its sign", x, x.difference(31, 6, 0), 0);
    }

    private static void ways() {
        within("hitsBy", fresh(), PackedCache::hitsBy, 1, 4, 2);
        within("hitsBy", Check.of("cache sets 1 ways 1 weighed"), PackedCache::hitsBy, 1, 4, 2);
    }

    private static void steps() {
        for (int n : new int[] {0, 1, 2, 15, 16}) {
            PackedCache x = Check.of("cache sets 1 ways 1 lately" + ";read 5 5".repeat(n));
            within("runStep of " + n, x, PackedCache::runStep, 0, n - 1, 1);
            c.passed("all but the first", x, x.runHits(), Math.max(0, n - 1));
            for (int k = 0; k < n; k++) {
                c.passed("STEP " + k, x, x.runStep(k), k == 0 ? 0 : 1);
            }
        }
    }

    private static void numbersOfHits() {
        within("waysFor", fresh(), PackedCache::waysFor, 0, 16, 2);
        PackedCache x = Check.of("cache sets 1 ways 4 lately" + ";read 5 5".repeat(16));
        c.passed("none", x, x.waysFor(0), 1);
        c.passed("as many as HIT", x, x.waysFor(15), 1);
        c.passed("one more", x, x.waysFor(16), -2);
    }

    private static void fitsByNumber() {
        String text = "cache sets 1 ways 1 lately";
        for (int n = 0; n <= 4; n++) {
            PackedCache x = Check.of(text);
            c.passed("all sets of " + n, x, x.fits(), 1 << n);
            within("fitAt of " + n, x, PackedCache::fitAt, 0, (1 << n) - 1, 1);
            for (int k = 0; k < 1 << n; k++) {
                c.passed("by numbers", x, x.fitAt(k), k);
            }
            c.passed("could", x, x.could(), (1 << n) - 1);
            c.passed("surely", x, x.surely(), 0);
            c.passed("ask", x, x.ask(), n == 0 ? -2 : 0);
            c.passed("askLeaves", x, x.askLeaves(), n == 0 ? -2 : 1 << n - 1);
            text += ";unsure 31 " + n + " 5";
        }
    }

    private static void seeds() {
        within("drawnHits' SEED", fresh(), (y, seed) -> y.drawnHits(seed, 3), 0, 65536, 2);
        within("drawnBacks' SEED", fresh(), (y, seed) -> y.drawnBacks(seed, 3), 0, 65536, 2);
        PackedCache x = fresh();
        // 65,536 becomes 65,536 again: line 0, a write, place 0, WORD 136, over and over
        c.passed("the last SEED", x, x.drawnHits(65536, 2), 1);
        // 0 becomes 74, 5,624, ..: line 10, a write
        x.read(10, 0);
        c.passed("the first SEED", x, x.drawnHits(0, 1), 1);
    }

    private static void numbersOfUses() {
        within("drawnHits' n", fresh(), (y, n) -> y.drawnHits(65536, n), 0, 200, 2);
        within("drawnBacks' n", fresh(), (y, n) -> y.drawnBacks(65536, n), 0, 200, 2);
        PackedCache x = fresh();
        for (int n = 0; n <= 200; n++) {
            c.passed("all but the first of " + n, x, x.drawnHits(65536, n), Math.max(0, n - 1));
        }
        x.read(0, 0);
        c.passed("no USE", x, x.drawnHits(65536, 0), 0);
        c.passed("200, all", x, x.drawnHits(65536, 200), 200);
        c.passed("USED once, NOW", x, x.cached(0, 1), 1);
    }

    private static void wordsWritten() {
        PackedCache x = fresh();
        within("growsOver", x, (y, w) -> y.growsOver(31, 7, w), 0, 65535, 2);
        within("write", x, (y, w) -> y.write(31, 7, w), 0, 65535, 2);
        c.passed("the last that was written", x, x.word(31, 7), 65535);
        x.write(31, 7, 0);
        c.passed("the least", x, x.word(31, 7), 0);
    }

    private static PackedCache line(String words) {
        return Check.of("cache sets 1 ways 1 lately;line 5 " + words);
    }

    // a LANE of width 8 whose sign is set
    private static void signs() {
        PackedCache x = line("32768 0 0 0 32768 0 0 127");
        c.passed("BASE is the least long", x, x.base(5, 4), Long.MIN_VALUE);
        c.passed("127 from it", x, x.difference(5, 4, 1), 127);
        c.passed("fits by 1", x, x.bytes(5, 4), 11);
        c.passed("no MASK", x, x.mask(5, 4), 0);
        x = line("32768 0 0 0 32768 0 0 128");
        c.passed("128 from it", x, x.difference(5, 4, 1), 128);
        c.passed("not by 1", x, x.bytes(5, 4), -2);
        c.passed("but by 2", x, x.bytes(5, 6), 13);
        x = line("40000 500 3 1000 40000 500 3 872");
        c.passed("FORM 4 of two with the sign", x, x.form(5), 4);
        x = line("40000 500 3 1000 40000 500 3 871");
        c.passed("FORM 6 of two with the sign", x, x.form(5), 6);
        x = line("40000 500 3 1000 7232 500 3 1000");
        c.passed("one with the sign, one without", x, x.form(5), 7);
        x = line("65535 65535 65535 65535 65535 65535 65535 65534");
        c.passed("-1, -2: BASE 0", x, x.base(5, 4), 0);
        c.passed("-1", x, x.difference(5, 4, 0), -1);
        c.due("-1 is no refusal", x.trouble(), 0);
        c.passed("-2", x, x.difference(5, 4, 1), -2);
        c.passed("both SMALL", x, x.mask(5, 4), 3);
        x = line("65535 65535 65535 65407 65535 65535 65535 65408");
        c.passed("-129: BASE by 1", x, x.base(5, 4), -129);
        c.passed("-128: SMALL by 1", x, x.mask(5, 4), 2);
        c.passed("-129 less -129", x, x.difference(5, 4, 0), 0);
        c.passed("-128 itself", x, x.difference(5, 4, 1), -128);
        c.passed("-129: BASE by 2", x, x.base(5, 6), 0);
        x = line("65535 65535 65535 32767 65535 65535 65535 32768");
        c.passed("-32,769: BASE by 2", x, x.base(5, 6), -32769);
        c.passed("-32,768: SMALL by 2", x, x.mask(5, 6), 2);
        c.passed("width 4 has no sign", x, x.base(5, 2), 4294967295L);
        c.passed("width 2 has none", x, x.base(5, 3), 65535);
        x = line("0 0 0 65535 0 0 0 65535");
        c.passed("the first WORD's sign alone", x, x.base(5, 4), 65535);
        x = line("0 32768 0 0 0 65535 0 1");
        c.passed("nor that of the second", x, x.base(5, 4), 32768L << 32);
    }

    // a difference that goes round
    private static void roundAndRound() {
        PackedCache x = line("32767 65535 65535 65535 32768 0 0 0");
        c.passed("the greatest and the least", x, x.difference(5, 4, 1), 1);
        c.passed("fit by 1", x, x.bytes(5, 4), 11);
        x = line("32768 0 0 0 32767 65535 65535 65535");
        c.passed("the least and the greatest", x, x.difference(5, 4, 1), -1);
        c.passed("fit by 1, too", x, x.form(5), 4);
        x = line("32767 65535 65535 65535 32768 0 0 126");
        c.passed("127 round", x, x.difference(5, 4, 1), 127);
        c.passed("127 round fits", x, x.form(5), 4);
        x = line("32767 65535 65535 65535 32768 0 0 127");
        c.passed("128 round", x, x.difference(5, 4, 1), 128);
        c.passed("128 round fits by 2 alone", x, x.form(5), 6);
        x = line("32768 0 0 0 32767 65535 65535 65408");
        c.passed("-128 round", x, x.difference(5, 4, 1), -128);
        c.passed("-128 round fits", x, x.form(5), 4);
        x = line("32768 0 0 0 32767 65535 65535 65407");
        c.passed("-129 round", x, x.difference(5, 4, 1), -129);
        c.passed("-129 round fits by 2 alone", x, x.form(5), 6);
        x = line("32767 65535 65535 65535 32768 0 0 32766");
        c.passed("32,767 round", x, x.form(5), 6);
        x = line("32767 65535 65535 65535 32768 0 0 32767");
        c.passed("32,768 round", x, x.difference(5, 6, 1), 32768);
        c.passed("32,768 round doesn't fit", x, x.form(5), 7);
        x = line("32768 0 0 0 32767 65535 65535 32768");
        c.passed("-32,768 round", x, x.form(5), 6);
        x = line("32768 0 0 0 32767 65535 65535 32767");
        c.passed("-32,769 round doesn't fit", x, x.form(5), 7);
        x = line("32768 0 0 0 0 0 0 200");
        c.passed("200 less the least long", x, x.difference(5, 4, 1), Long.MIN_VALUE + 200);
    }

    private static void smallOnes() {
        PackedCache x = line("127 128 127 0 128 0 1000 127");
        c.passed("127 is SMALL, 128 isn't", x, x.mask(5, 3), 1 + 4 + 8 + 32 + 128);
        c.passed("BASE 128", x, x.base(5, 3), 128);
        c.passed("far from it", x, x.difference(5, 3, 6), 872);
        x = line("0 32767 0 32768 0 127 0 128");
        c.passed("width 4 by 2", x, x.mask(5, 5), 13);
        c.passed("width 4 by 1", x, x.mask(5, 2), 4);
        c.passed("BASE by 2", x, x.base(5, 5), 32768);
        c.passed("BASE by 1", x, x.base(5, 2), 32767);
        x = line("0 0 0 32767 0 0 0 32768");
        c.passed("width 8 by 2", x, x.mask(5, 6), 1);
        c.passed("width 8 by 1", x, x.base(5, 4), 32767);
        c.passed("one from it", x, x.difference(5, 4, 1), 1);
        x = line("65535 65535 65535 65535 65535 65535 65535 65535");
        c.passed("SAME of the greatest", x, x.form(5), 1);
        c.passed("all but ZERO", x, x.forms(5), 7);
        x = line("0 0 0 0 0 0 0 1");
        c.passed("not SAME by its last WORD", x, x.form(5), 2);
        x = line("1 0 0 0 0 0 0 0");
        c.passed("not SAME by its first WORD", x, x.form(5), 2);
        c.passed("2 to 7", x, x.forms(5), 6);
    }

    private static void emptySet() {
        for (int ways = 1; ways <= 4; ways++) {
            for (String how : new String[] {"lately", "weighed"}) {
                PackedCache x = Check.of("cache sets 2 ways " + ways + " " + how + ";line 2" + RAW);
                x.write(1, 0, 1);
                c.passed("no TAGS", x, x.set(0, 0), 0);
                c.passed("no SEGMENTS", x, x.set(0, 1), 0);
                c.passed("none DIRTY", x, x.set(0, 2), 0);
                c.passed("all free", x, x.set(0, 3), 4 * ways);
                c.refused("no TAG", x, x.tag(0, 0), 1);
                c.passed("no VICTIM", x, x.victim(0), -2);
                c.passed("none goes for RAW", x, x.makesRoom(2), 0);
                c.passed("none goes for a WORD", x, x.growsOver(0, 0, 65535), 0);
                x.read(2, 0);
                x.drop(2);
                c.passed("empty again", x, x.victim(0), -2);
                c.passed("all free again", x, x.set(0, 3), 4 * ways);
            }
        }
    }

    private static void fullOfTags() {
        for (int ways = 1; ways <= 4; ways++) {
            PackedCache x = Check.of("cache sets 1 ways " + ways + " lately");
            for (int l = 0; l < 2 * ways; l++) {
                c.passed("there is a TAG for " + l, x, x.makesRoom(l), 0);
                x.read(l, 0);
            }
            c.passed("SEGMENTS are free", x, x.set(0, 3), 2 * ways);
            c.passed("but no TAG", x, x.makesRoom(31), 1);
            c.passed("nor for a write", x, x.growsOver(31, 0, 0), 1);
            c.passed("one that is CACHED needs none", x, x.makesRoom(0), 0);
            c.passed("the VICTIM", x, x.victim(0), 0);
            x.read(31, 0);
            c.passed("one for one", x, x.set(0, 0), 2 * ways);
            c.passed("it went", x, x.isCached(0), 0);
        }
    }

    private static void fullOfSegments() {
        StringBuilder text = new StringBuilder();
        for (int l = 0; l < 6; l++) {
            text.append(";line ").append(l).append(RAW);
        }
        for (int ways = 1; ways <= 4; ways++) {
            PackedCache x = Check.of("cache sets 1 ways " + ways + " lately" + text);
            for (int l = 0; l < ways; l++) {
                c.passed("there is room for " + l, x, x.makesRoom(l), 0);
                x.read(l, 0);
            }
            c.passed("none is free", x, x.set(0, 3), 0);
            c.passed("all are taken", x, x.set(0, 1), 4 * ways);
            c.passed("half the TAGS", x, x.set(0, 0), ways);
            c.passed("one goes for RAW", x, x.makesRoom(5), 1);
            c.passed("one goes for ZERO", x, x.makesRoom(31), 1);
            x.read(31, 0);
            c.passed("3 are free", x, x.set(0, 3), 3);
            c.passed("one more of ZERO has room", x, x.makesRoom(30), 0);
        }
    }

    // several for one, and SEGMENTS to the last
    private static final String MIXED = "cache sets 1 ways 2 lately;line 1 1000 1001 1002 1003 1000 1001 1002 1003"
        + ";line 2 1000 1001 1002 1003 1000 1001 1002 1003;line 3" + RAW;

    private static void growsToTheLastSegment() {
        PackedCache x = Check.of(MIXED);
        x.read(1, 0);
        x.read(0, 0);
        x.read(4, 0);
        x.read(5, 0);
        c.passed("3 and 1 and 1 and 1", x, x.set(0, 1), 6);
        c.passed("one grows by two, to the last", x, x.growsOver(5, 0, 300), 0);
        x.write(5, 0, 300);
        c.passed("all are taken", x, x.set(0, 3), 0);
        c.passed("all are there", x, x.set(0, 0), 4);
        c.passed("the same WORD again", x, x.growsOver(5, 0, 300), 0);
        c.passed("one SEGMENT more", x, x.growsOver(5, 2, 40000), 0);
    }

    private static void growsBeyond() {
        PackedCache x = Check.of(MIXED);
        x.read(5, 0);
        x.read(0, 0);
        x.read(4, 0);
        x.read(1, 0);
        x.write(1, 0, 1001);
        x.write(5, 0, 300);
        c.passed("8 taken", x, x.set(0, 3), 0);
        c.passed("another grows by two: two of one SEGMENT go", x, x.growsOver(4, 0, 300), 2);
        c.passed("the VICTIM of both", x, x.victim(0), 0);
        c.passed("written", x, x.write(4, 0, 300), 2);
        c.passed("0 went", x, x.isCached(0), 0);
        c.passed("1 went, never it, though it was next", x, x.isCached(1), 0);
        c.passed("1 was WRITTEN BACK", x, x.memory(1, 0), 1001);
        c.passed("it stays", x, x.isCached(4), 1);
        c.passed("it is DIRTY", x, x.cached(4, 2), 1);
        c.passed("5 stays", x, x.cached(5, 3), 1);
        c.passed("6 taken", x, x.set(0, 1), 6);
    }

    private static void growsOnAMiss() {
        PackedCache x = Check.of("cache sets 1 ways 1 lately;line 3" + RAW);
        x.write(3, 0, 2);
        c.passed("RAW goes for the MISS", x, x.growsOver(0, 0, 0), 1);
        c.passed("and is all that goes", x, x.growsOver(0, 0, 300), 1);
        x.write(0, 0, 0);
        c.passed("WRITTEN BACK", x, x.memory(3, 0), 2);
        x.read(1, 0);
        c.passed("one for the TAG, the other stays", x, x.growsOver(2, 0, 127), 1);
        c.passed("one for the TAG, 3 and 1 have room", x, x.growsOver(2, 0, 128), 1);
        c.passed("RAW: both for the MISS", x, x.growsOver(3, 0, 128), 2);
        x.write(1, 0, 300);
        c.passed("3 and 1", x, x.set(0, 3), 0);
        x.read(0, 0);
        c.passed("1, for its SEGMENTS, is the longest ago", x, x.victim(0), 1);
        c.passed("one for the MISS", x, x.growsOver(2, 0, 0), 1);
        c.passed("one for the MISS, none for growth", x, x.growsOver(2, 0, 300), 1);
        x.read(1, 0);
        c.passed("0 for the MISS, 1 for growth", x, x.growsOver(2, 0, 300), 2);
        c.passed("written so", x, x.write(2, 0, 300), 2);
        c.passed("alone", x, x.lines(), 1);
        c.passed("USED 1", x, x.cached(2, 1), 1);
    }

    private static void shrinks() {
        PackedCache x = Check.of("cache sets 1 ways 1 lately");
        c.passed("grows", x, x.write(0, 0, 300), 2);
        c.passed("1 free", x, x.set(0, 3), 1);
        c.passed("shrinks", x, x.write(0, 0, 0), 0);
        c.passed("3 free", x, x.set(0, 3), 3);
        c.passed("16 by 1", x, x.ratio(false), 16);
        c.passed("DIRTY all the same", x, x.cached(0, 2), 1);
        for (int i = 0; i < 7; i++) {
            x.write(0, i, 9);
        }
        c.passed("SAME by its last WORD", x, x.write(0, 7, 9), 1);
        c.passed("8 by 1", x, x.ratio(false), 8);
        c.passed("by 1", x, x.ratio(true), 1);
    }

    private static void neverBelowTheirBytes() {
        PackedCache x = Check.of("cache sets 4 ways 4 lately");
        c.passed("no line, upper", x, x.ratio(false), 1);
        c.passed("no line, lower", x, x.ratio(true), 1);
        for (int l = 0; l < 32; l++) {
            x.read(l, 0);
        }
        c.passed("512 by 32", x, x.ratio(false), 16);
        c.passed("512 by 32, lower", x, x.ratio(true), 1);
        x.write(0, 0, 1);
        c.passed("512 by 40", x, x.ratio(false), 64);
        c.passed("512 by 40, lower", x, x.ratio(true), 5);
    }

    private static void noUnsureWord() {
        for (String seen : new String[] {"", ";saw 0 miss", ";saw 1 hit;saw 0 miss"}) {
            PackedCache x = Check.of("cache sets 1 ways 1 lately;read 0 0;read 0 0" + seen);
            c.passed("the set of none fits", x, x.fits(), 1);
            c.passed("it is 0", x, x.fitAt(0), 0);
            c.refused("no other", x, x.fitAt(1), 1);
            c.passed("none could", x, x.could(), 0);
            c.passed("none surely", x, x.surely(), 0);
            c.passed("nothing to ask", x, x.ask(), -2);
            c.passed("nothing left", x, x.askLeaves(), -2);
            c.passed("all is so", x, x.judge(), -2);
        }
    }

    private static void noFits() {
        for (String unsure : new String[] {"", ";unsure 0 0 5", ";unsure 0 0 5;unsure 0 1 5;unsure 0 2 5;unsure 0 3 5"}) {
            PackedCache x = Check.of("cache sets 1 ways 1 lately;read 0 0;read 0 0;saw 1 hit;saw 0 hit" + unsure);
            c.passed("no FITS", x, x.fits(), 0);
            c.refused("no first", x, x.fitAt(0), 1);
            c.passed("none could", x, x.could(), 0);
            c.passed("surely without a set", x, x.surely(), 0);
            c.passed("nothing to ask", x, x.ask(), -2);
            c.passed("nothing left", x, x.askLeaves(), -2);
            c.passed("the second seen isn't so", x, x.judge(), 1);
        }
    }

    // as many seen ones as may be told, and fewer behind them
    private static void sixSeen() {
        String text = "cache sets 1 ways 1 lately" + ";read 0 0".repeat(7);
        PackedCache x = new PackedCache();
        for (int n = 6; n >= 0; n--) {
            StringBuilder so = new StringBuilder(text);
            for (int k = 0; k < n; k++) {
                so.append(";saw ").append(6 - k).append(" hit");
            }
            c.due("so many are seen", Check.tell(x, so.toString()), 7);
            c.passed("all " + n + " are so", x, x.judge(), -2);
            c.passed("one set fits", x, x.fits(), 1);
            if (n > 0) {
                Check.tell(x, so.substring(0, so.length() - 3) + "miss");
                c.passed("but for the last of " + n, x, x.judge(), n - 1);
                c.passed("no set fits", x, x.fits(), 0);
            }
        }
    }

    private static void noSteps() {
        PackedCache x = Check.of("cache sets 1 ways 1 lately;unsure 0 0 1");
        c.passed("runHits", x, x.runHits(), 0);
        c.passed("runVictims", x, x.runVictims(), 0);
        c.passed("runBacks", x, x.runBacks(), 0);
        c.passed("plainHits", x, x.plainHits(), 0);
        c.passed("plainBacks", x, x.plainBacks(), 0);
        c.passed("waysFor(0)", x, x.waysFor(0), 1);
        c.passed("waysFor(1)", x, x.waysFor(1), -2);
        c.passed("fits", x, x.fits(), 2);
        c.passed("judge", x, x.judge(), -2);
        for (String step : new String[] {";read 0 0", ";write 0 0 1"}) {
            x = Check.of("cache sets 1 ways 1 lately" + step);
            c.passed("one STEP misses", x, x.runHits(), 0);
            c.passed("what is DIRTY at the end isn't WRITTEN BACK", x, x.runBacks(), 0);
            c.passed("nor PLAIN", x, x.plainBacks(), 0);
        }
    }

    // each as the first call on an object, so that none lives by what another reckoned
    private static void eachRunAlone() {
        String text = "cache sets 1 ways 1 lately;write 0 0 0;write 1 0 0;write 2 0 0;read 0 0;read 0 0";
        PackedCache x = Check.of(text);
        c.passed("0 and 1 go", x, x.runVictims(), 2);
        x = Check.of(text);
        c.passed("both WRITTEN BACK", x, x.runBacks(), 2);
        x = Check.of(text);
        c.passed("PLAIN, 0, 1 and 2", x, x.plainBacks(), 3);
        x = Check.of(text);
        c.passed("PLAIN, the last", x, x.plainHits(), 1);
        x = Check.of(text);
        c.passed("the last", x, x.runHits(), 1);
        x = Check.of(text);
        c.passed("the last STEP", x, x.runStep(4), 1);
        x = Check.of(text);
        c.passed("by 2 ways, the last two", x, x.hitsBy(2), 2);
        x = Check.of(text);
        c.passed("2 ways for two", x, x.waysFor(2), 2);
    }

    // so many lines in turn HIT once twice ways TAGS hold them all
    private static void waysUpToFour() {
        for (int ways = 1; ways <= 4; ways++) {
            StringBuilder turn = new StringBuilder();
            for (int l = 0; l < 2 * ways; l++) {
                turn.append(";read ").append(l).append(" 0");
            }
            PackedCache x = Check.of("cache sets 1 ways 1 lately" + turn + turn);
            for (int w = 1; w <= 4; w++) {
                c.passed(2 * ways + " lines by " + w, x, x.hitsBy(w), w < ways ? 0 : 2 * ways);
            }
            c.passed("the fewest ways for one", x, x.waysFor(1), ways);
            c.passed("the fewest ways for all", x, x.waysFor(2 * ways), ways);
            c.passed("for one more", x, x.waysFor(2 * ways + 1), -2);
        }
    }

    // RUN has the WORDS of the lines as told; the other ones are for FITS alone
    private static void runsByWordsAsTold() {
        String text = "cache sets 1 ways 1 lately;unsure 0 0 300;unsure 0 7 40000;read 1 0;write 0 1 0;read 1 0";
        PackedCache x = Check.of(text + ";saw 2 miss");
        c.passed("memory as told", x, x.memory(0, 0), 0);
        c.passed("the last HITS", x, x.runHits(), 1);
        c.passed("and so is it seen not", x, x.judge(), 0);
        c.passed("but by both other ones", x, x.fits(), 1);
        c.passed("which are", x, x.fitAt(0), 3);
        c.passed("the last HITS still", x, x.runStep(2), 1);
        c.passed("none goes", x, x.runVictims(), 0);
        // line 0 takes 3 SEGMENTS as told, 4 by the first other one alone
        x = Check.of("cache sets 1 ways 1 lately;line 0 0 0 0 0 0 0 0 40000;unsure 0 0 300;read 1 0;read 0 0;read 1 0;saw 2 hit");
        c.passed("the last HITS as told", x, x.runHits(), 1);
        c.passed("as it was seen", x, x.judge(), -2);
        c.passed("by none of the other ones", x, x.could(), 0);
        c.passed("one set", x, x.fits(), 1);
    }

    // what is no longer kept to be undone goes on from an IMAGE in the same order
    private static void manyActsBehindAnImage() {
        PackedCache x = Check.of("cache sets 1 ways 2 lately");
        for (int l = 0; l < 4; l++) {
            x.read(l, 0);
        }
        x.image();
        x.back(0);
        x.read(0, 0);
        for (int k = 0; k < 16; k++) {
            x.read(3, 0);
        }
        c.due("sixteen", x.size(7), 16);
        for (int k = 0; k < 16; k++) {
            c.due("undone", x.undo(), true);
        }
        int[] order = {0, 3, 2, 1};
        for (int k = 0; k < 4; k++) {
            c.passed("as after the first of seventeen", x, x.tag(0, k), order[k]);
        }
    }

    // of like ones the one last USED longest ago, whether its number is the less or the greater
    private static void alikeByWeight() {
        for (int first = 0; first < 2; first++) {
            PackedCache x = Check.of("cache sets 1 ways 1 weighed");
            x.read(first, 0);
            x.read(1 - first, 0);
            c.passed("1 by 1, 1 by 1", x, x.victim(0), first);
            x.read(first, 0);
            c.passed("2 by 1, 1 by 1", x, x.victim(0), 1 - first);
            x.read(1 - first, 0);
            c.passed("2 by 1, 2 by 1", x, x.victim(0), first);
            x.read(1 - first, 0);
            x.write(first, 0, 300);
            c.passed("3 by 3, 3 by 1", x, x.victim(0), first);
            for (int k = 0; k < 6; k++) {
                x.read(first, 0);
            }
            c.passed("9 by 3, 3 by 1: alike", x, x.victim(0), 1 - first);
            x.read(1 - first, 0);
            for (int k = 0; k < 3; k++) {
                x.read(first, 0);
            }
            x.read(first, 0);
            c.passed("13 by 3, 4 by 1", x, x.victim(0), 1 - first);
        }
    }

    // what reckons leaves nothing behind for what reckons next
    private static void reckonedAfterPlain() {
        PackedCache x = Check.of("cache sets 1 ways 1 weighed;read 0 0;read 1 0");
        x.read(5, 0);
        x.read(5, 0);
        x.read(6, 0);
        x.plainHits();
        c.passed("one TAG of two, though PLAIN has one", x, x.makesRoom(7), 1);
        x.drop(6);
        x.plainBacks();
        c.passed("a TAG is free, though not PLAIN", x, x.makesRoom(7), 0);
        c.passed("ZERO, though not PLAIN", x, x.growsOver(7, 0, 0), 0);
        x.read(6, 0);
        x.read(5, 0);
        x.read(6, 0);
        x.hitsBy(4);
        c.passed("by the ways as told", x, x.makesRoom(7), 1);
        x.plainHits();
        // 65,536 over and over: line 0 takes the place of one, grows to 3
        c.passed("drawn after PLAIN", x, x.drawnHits(65536, 3), 2);
        c.passed("NOW is as it was", x, x.set(0, 0), 2);
    }

    // n USES by a SEED are what the same ACTS would be
    private static void drawnAsActs() {
        String[] texts = {"cache sets 1 ways 1 lately", "cache sets 2 ways 2 weighed;line 3" + RAW + ";line 8" + RAW,
            "cache sets 4 ways 4 lately;line 0" + RAW, "cache sets 3 ways 1 weighed;line 1" + RAW};
        for (int k = 0; k < texts.length; k++) {
            PackedCache x = Check.of(texts[k]);
            PackedCache y = Check.of(texts[k]);
            for (int l = 0; l < 6; l++) {
                x.write(l, l, 200);
                y.write(l, l, 200);
            }
            int seed = k * 20000 + 3;
            int hits = 0;
            int backs = 0;
            long drawn = seed;
            for (int n = 1; n <= 200; n++) {
                drawn = (75 * drawn + 74) % 65537;
                int l = (int) (drawn % 32);
                drawn = (75 * drawn + 74) % 65537;
                hits += y.isCached(l);
                int before = dirty(y);
                if (drawn % 4 == 0) {
                    drawn = (75 * drawn + 74) % 65537;
                    int i = (int) (drawn % 8);
                    drawn = (75 * drawn + 74) % 65537;
                    y.write(l, i, (int) (drawn % 300));
                } else {
                    y.read(l, 0);
                }
                backs += Integer.bitCount(before & ~dirty(y));
                c.passed("drawnHits(" + seed + ", " + n + ")", x, x.drawnHits(seed, n), hits);
                c.passed("drawnBacks(" + seed + ", " + n + ")", x, x.drawnBacks(seed, n), backs);
            }
            PackedCache z = Check.of(texts[k]);
            for (int l = 0; l < 6; l++) {
                z.write(l, l, 200);
            }
            c.passed("drawnHits as the first that reckons", z, z.drawnHits(seed, 200), hits);
            c.due("some HIT", hits > 0, true);
            c.due("some are WRITTEN BACK", backs > 0, true);
        }
    }

    private static int dirty(PackedCache x) {
        int bits = 0;
        for (int l = 0; l < 32; l++) {
            bits |= x.cached(l, 2) == 1 ? 1 << l : 0;
        }
        return bits;
    }

    /** The k-th of ACTS that go round by four sorts and are never refused. */
    private static void act(PackedCache x, int k) {
        switch (k % 4) {
            case 0 -> c.passed("a write", x, x.write(0, 0, k), k == 0 ? 2 : 3);
            case 1 -> c.passed("a read", x, x.read(1, 0), 0);
            case 2 -> c.passed("a clean", x, x.clean(), 1);
            default -> c.passed("a drop", x, x.drop(1), 0);
        }
    }

    private static void sixteenActs() {
        for (int acts = 14; acts <= 20; acts++) {
            PackedCache x = Check.of("cache sets 1 ways 1 lately;line 0 5 0 0 0 0 0 0 1000");
            for (int k = 0; k < acts; k++) {
                act(x, k);
                c.due("kept", x.size(7), Math.min(16, k + 1));
            }
            int kept = Math.min(16, acts);
            for (int k = 0; k < kept; k++) {
                c.due("one of " + kept + " is undone", x.undo(), true);
                c.due("no trouble", x.trouble(), 0);
                c.due("so many are left", x.size(7), kept - k - 1);
            }
            for (int turn = 0; turn < 2; turn++) {
                c.due("one more", x.undo(), false);
                c.due("one more: 6", x.trouble(), 6);
                c.due("none is left", x.size(7), 0);
            }
            PackedCache y = Check.of("cache sets 1 ways 1 lately;line 0 5 0 0 0 0 0 0 1000");
            for (int k = 0; k < acts - kept; k++) {
                act(y, k);
            }
            same("as after the ACTS that aren't kept", x, y);
        }
    }

    private static void same(String what, PackedCache x, PackedCache y) {
        for (int l = 0; l < 2; l++) {
            c.due(what + ": word", x.word(l, 0), y.word(l, 0));
            c.due(what + ": memory", x.memory(l, 0), y.memory(l, 0));
            for (int k = 0; k < 4; k++) {
                c.due(what + ": cached", x.cached(l, k), y.cached(l, k));
                c.due(what + ": set", x.set(0, k), y.set(0, k));
            }
        }
        c.due(what + ": victim", x.victim(0), y.victim(0));
    }

    private static void refusedActsAreNotKept() {
        PackedCache x = Check.of("cache sets 1 ways 1 lately");
        x.clean();
        x.drop(0);
        x.drop(32);
        x.read(0, 8);
        x.write(32, 0, 0);
        x.write(0, 0, 65536);
        c.due("none is kept", x.size(7), 0);
        c.due("none can be undone", x.undo(), false);
        x.read(0, 0);
        x.clean();
        c.due("one is kept", x.size(7), 1);
        x.makesRoom(5);
        x.growsOver(5, 0, 5);
        x.drawnHits(5, 5);
        x.runHits();
        x.image();
        c.due("what only reckons, and an IMAGE, is no ACT", x.size(7), 1);
    }

    private static void undoneActs() {
        PackedCache x = Check.of("cache sets 1 ways 1 lately");
        x.write(0, 0, 7);
        x.write(0, 0, 8);
        x.undo();
        c.passed("7 again", x, x.word(0, 0), 7);
        x.write(0, 0, 9);
        c.due("two are kept", x.size(7), 2);
        x.undo();
        c.passed("7 once more", x, x.word(0, 0), 7);
        x.undo();
        c.passed("0", x, x.word(0, 0), 0);
        c.passed("nothing CACHED", x, x.lines(), 0);
        c.passed("the SET is empty", x, x.victim(0), -2);
        c.due("nothing more", x.undo(), false);
        for (int k = 0; k < 17; k++) {
            x.write(1, 1, k);
        }
        for (int k = 0; k < 16; k++) {
            x.undo();
        }
        x.write(1, 1, 99);
        c.due("one is kept behind sixteen undone", x.size(7), 1);
        x.undo();
        c.passed("as after the first of seventeen", x, x.word(1, 1), 0);
        c.passed("USED once", x, x.cached(1, 1), 1);
        c.due("nothing more", x.undo(), false);
    }

    private static void threeImages() {
        PackedCache x = Check.of("cache sets 1 ways 1 lately");
        for (int k = 0; k < 3; k++) {
            c.due("no such IMAGE yet", x.back(k), false);
            c.due("no such IMAGE yet: 1", x.trouble(), 1);
            x.write(0, 0, k + 1);
            c.passed("IMAGE " + k, x, x.image(), k);
            c.due("so many", x.size(8), k + 1);
        }
        for (int turn = 0; turn < 2; turn++) {
            c.refused("a fourth", x, x.image(), 3);
            c.due("three", x.size(8), 3);
        }
        c.due("it changed nothing", x.size(7), 3);
        for (int k : new int[] {2, 0, 1, 1}) {
            x.write(0, 0, 50);
            c.due("back to " + k, x.back(k), true);
            c.due("back to " + k + ": trouble", x.trouble(), 0);
            c.passed("its WORD", x, x.word(0, 0), k + 1);
            c.passed("how often it was USED", x, x.cached(0, 1), k + 1);
            c.due("nothing can be undone", x.size(7), 0);
            c.due("three stay", x.size(8), 3);
            c.refused("still no fourth", x, x.image(), 3);
        }
        for (int k : new int[] {-1, 3, MIN, MAX}) {
            x.write(0, 0, 60);
            int kept = x.size(7);
            c.due("back(" + k + ")", x.back(k), false);
            c.due("back(" + k + "): trouble", x.trouble(), 1);
            c.passed("it changed nothing", x, x.word(0, 0), 60);
            c.due("nor what can be undone", x.size(7), kept);
        }
    }

    private static void imagesOfEachCache() {
        PackedCache x = Check.of("cache sets 1 ways 1 lately");
        for (int turn = 0; turn < 3; turn++) {
            for (int k = 0; k < 3; k++) {
                c.passed("IMAGE " + k, x, x.image(), k);
            }
            c.refused("a fourth", x, x.image(), 3);
            c.due("a text anew", Check.tell(x, "cache sets 2 ways 1 weighed;line 0 1 1 1 1 1 1 1 1"), 0);
            c.due("no IMAGES", x.size(8), 0);
            c.due("none to go back to", x.back(0), false);
            c.passed("an IMAGE of the new one", x, x.image(), 0);
            x.write(0, 0, 5);
            c.due("back", x.back(0), true);
            c.passed("memory of the new one", x, x.word(0, 0), 1);
            Check.tell(x, "cache sets 1 ways 1 lately");
        }
    }

    private static boolean ledThrows(PackedCache x, int i) {
        try {
            x.led(i);
            return false;
        } catch (NoSuchElementException e) {
            return true;
        }
    }

    private static void led() {
        PackedCache x = new PackedCache();
        c.due("no CACHE", ledThrows(x, 0), true);
        x = Check.of("cache sets 4 ways 4 lately");
        c.due("nothing CACHED", ledThrows(x, 0), true);
        x.read(0, 0);
        c.due("none DIRTY", ledThrows(x, 0), true);
        for (int l = 31; l >= 0; l--) {
            x.write(l, 0, 0);
            c.due("the least of them", x.led(0), l);
            c.due("the last of them", x.led(31 - l), 31);
            for (int i : new int[] {-1, 32 - l, MIN, MAX}) {
                c.due("led(" + i + ") of " + (32 - l), ledThrows(x, i), true);
            }
        }
        for (int l = 0; l < 32; l++) {
            c.due("by numbers", x.led(l), l);
        }
        x.drop(0);
        c.due("without the one dropped", x.led(0), 1);
        x.clean();
        c.due("all cleaned", ledThrows(x, 0), true);
        x.undo();
        c.due("undone", x.led(30), 31);
    }
}
