import java.util.NoSuchElementException;

/** Each promise of the document, by its number, with answers reckoned by hand. */
public final class PromisesTest {
    private static final int NONE = PackedCache.NONE;
    private static final int MIN = Integer.MIN_VALUE;
    private static final int MAX = Integer.MAX_VALUE;
    private static final int BLANKS = 0x20202020;
    private static final Check c = new Check("promises");

    private static final String ONE = "cache sets 1 ways 1 lately";
    /** Of line 0 to 7 each is of the FORM of its number; 8 is RAW by a long's sign, 9 of FORM 4 over the sign's edge. */
    private static final String FORMS = ";line 1 500 500 500 500 500 500 500 500"
        + ";line 2 9 1000 9 1001 9 1127 0 127"
        + ";line 3 1000 1001 1127 872 0 127 1000 5"
        + ";line 4 1 500 3 1000 1 500 3 1127"
        + ";line 5 9 1000 9 33767 0 32767 8 33768"
        + ";line 6 1 2 900 1000 1 2 900 33767"
        + ";line 7 1 60000 2 5000 3 40000 4 20000"
        + ";line 9 32767 65535 65535 65535 32768 0 0 0";

    public static void main(String[] args) {
        newObject();
        tape();
        cacheCalls();
        grammar();
        faultsOfBounds();
        faultsOfOrder();
        faultsOfRoom();
        words();
        forms();
        basesAndMasks();
        linesOf();
        setsAndTags();
        victimsLately();
        victimsWeighed();
        grows();
        ratios();
        runs();
        plain();
        byWays();
        unsure();
        asks();
        judges();
        drawn();
        readsAndWrites();
        dropsAndCleans();
        undoes();
        images();
        ledAndSize();
        troubles();
        c.end();
    }

    private static boolean ledThrows(PackedCache x, int i) {
        try {
            x.led(i);
            return false;
        } catch (NoSuchElementException e) {
            return true;
        }
    }

    // 1, and what all calls say of an object without a CACHE
    private static void newObject() {
        PackedCache x = new PackedCache();
        c.due("new trouble()", x.trouble(), 0);
        c.due("new fault()", x.fault(), 0);
        c.due("new where()", x.where(), NONE);
        for (int what = 0; what < 10; what++) {
            c.due("new size(" + what + ")", x.size(what), 0);
        }
        c.due("new led(0) throws", ledThrows(x, 0), true);
        c.due("new trouble() after led", x.trouble(), 0);
        c.refused("new word", x, x.word(0, 0), 1);
        c.refused("new memory", x, x.memory(0, 0), 1);
        c.refused("new form", x, x.form(0), 1);
        c.refused("new bytes", x, x.bytes(0, 9), 1);
        c.refused("new forms", x, x.forms(0), 1);
        c.refused("new segments", x, x.segments(0), 1);
        c.refused("new base", x, x.base(0, 9), 1);
        c.refused("new mask", x, x.mask(0, 9), 1);
        c.refused("new difference", x, x.difference(0, 9, 0), 1);
        c.refused("new linesOf", x, x.linesOf(9), 1);
        c.refused("new set", x, x.set(0, 0), 1);
        c.refused("new tag", x, x.tag(0, 0), 1);
        c.refused("new cached", x, x.cached(0, 0), 1);
        c.refused("new isCached", x, x.isCached(0), 1);
        c.refused("new victim", x, x.victim(0), 1);
        c.refused("new makesRoom", x, x.makesRoom(0), 1);
        c.refused("new growsOver", x, x.growsOver(0, 0, -1), 1);
        c.refused("new ratio", x, x.ratio(false), 1);
        c.refused("new lines", x, x.lines(), 1);
        newObjectsRuns(x);
    }

    private static void newObjectsRuns(PackedCache x) {
        c.due("new undo", x.undo(), false);
        c.due("new undo's trouble", x.trouble(), 6);
        c.refused("new runHits", x, x.runHits(), 1);
        c.due("new undo", x.undo(), false);
        c.refused("new runVictims", x, x.runVictims(), 1);
        c.due("new undo", x.undo(), false);
        c.refused("new runBacks", x, x.runBacks(), 1);
        c.due("new undo", x.undo(), false);
        c.refused("new runStep", x, x.runStep(0), 1);
        c.due("new undo", x.undo(), false);
        c.refused("new plainHits", x, x.plainHits(), 1);
        c.due("new undo", x.undo(), false);
        c.refused("new plainBacks", x, x.plainBacks(), 1);
        c.due("new undo", x.undo(), false);
        c.refused("new hitsBy", x, x.hitsBy(9), 1);
        c.due("new undo", x.undo(), false);
        c.refused("new waysFor", x, x.waysFor(99), 1);
        c.due("new undo", x.undo(), false);
        c.refused("new fits", x, x.fits(), 1);
        c.due("new undo", x.undo(), false);
        c.refused("new fitAt", x, x.fitAt(0), 1);
        c.due("new undo", x.undo(), false);
        c.refused("new could", x, x.could(), 1);
        c.due("new undo", x.undo(), false);
        c.refused("new surely", x, x.surely(), 1);
        c.due("new undo", x.undo(), false);
        c.refused("new ask", x, x.ask(), 1);
        c.due("new undo", x.undo(), false);
        c.refused("new askLeaves", x, x.askLeaves(), 1);
        c.due("new undo", x.undo(), false);
        c.refused("new judge", x, x.judge(), 1);
        c.due("new undo", x.undo(), false);
        c.refused("new drawnHits", x, x.drawnHits(-1, -1), 1);
        c.due("new undo", x.undo(), false);
        c.refused("new drawnBacks", x, x.drawnBacks(-1, -1), 1);
        c.due("new undo", x.undo(), false);
        c.refused("new read", x, x.read(0, 0), 1);
        c.due("new undo", x.undo(), false);
        c.refused("new write", x, x.write(0, 0, -1), 1);
        c.due("new undo", x.undo(), false);
        c.refused("new drop", x, x.drop(0), 1);
        c.due("new undo", x.undo(), false);
        c.refused("new clean", x, x.clean(), 1);
        c.due("new undo", x.undo(), false);
        c.refused("new image", x, x.image(), 1);
        c.due("new undo", x.undo(), false);
        c.due("new back", x.back(0), false);
        c.due("new back's trouble", x.trouble(), 1);
    }

    // 2
    private static void tape() {
        PackedCache x = new PackedCache();
        x.lines();
        for (int k = 1; k <= 60; k++) {
            c.due("feed " + k, x.feed(BLANKS, BLANKS, BLANKS, BLANKS, BLANKS), 20 * k);
        }
        c.due("feed beyond", x.feed(BLANKS, BLANKS, BLANKS, BLANKS, BLANKS), NONE);
        c.due("feed is not refused by a number", x.trouble(), 1);
        c.due("tape after feed beyond", x.size(9), 1200);
        c.refused("cache of blanks", x, x.cache(1200), 4);
        c.due("fault of blanks", x.fault(), 1);
        c.due("where of blanks", x.where(), 1200);
        c.due("the tape is empty then", x.size(9), 0);
        c.due("feed anew", x.feed(0x63616368, 0x65202020, -1, 0, MIN), 20);
        c.refused("a byte of 255", x, x.cache(20), 4);
        c.due("where of 255", x.where(), 8);
        x = new PackedCache();
        Check.feed(x, "cache sets 1 ways 4 weighed;read 0 0");
        c.due("highest byte first", x.cache(36), 1);
        c.due("highest byte first: ways", x.size(1), 4);
    }

    // 3, 4, 5
    private static void cacheCalls() {
        PackedCache x = new PackedCache();
        Check.feed(x, ONE + ";read 1 1;read 2 2");
        c.refused("cache(-1)", x, x.cache(-1), 2);
        c.refused("cache(MIN)", x, x.cache(MIN), 2);
        c.refused("cache beyond", x, x.cache(61), 2);
        c.due("the tape stays", x.size(9), 60);
        c.passed("cache", x, x.cache(45), 2);
        c.due("the tape is empty", x.size(9), 0);
        c.refused("cache beyond an empty tape", x, x.cache(1), 2);
        x.write(1, 0, 5);
        x.image();
        c.due("a fault", Check.tell(x, "cache sets 1 ways 5"), NONE);
        c.due("a fault's trouble", x.trouble(), 4);
        c.due("its number", x.fault(), 4);
        c.due("its place", x.where(), 18);
        c.due("the tape is empty after a fault", x.size(9), 0);
        c.due("the fault stays", x.fault(), 4);
        c.due("where again", x.where(), 18);
        x.feed(0, 0, 0, 0, 0);
        x.size(0);
        c.due("where after calls that can't be refused", x.where(), 18);
        c.passed("the CACHE stays", x, x.word(1, 0), 5);
        c.due("where after another call", x.where(), NONE);
        c.due("the fault stays after it", x.fault(), 4);
        c.refused("cache by 2", x, x.cache(-1), 2);
        c.due("the fault stays after 2", x.fault(), 4);
        c.due("no where after 2", x.where(), NONE);
        c.due("images stay", x.size(8), 1);
        c.due("acts stay", x.size(7), 1);
        x.cache(0);
        c.due("end of nothing", x.fault(), 1);
        c.due("end of nothing's place", x.where(), 0);
        c.due("a new cache", Check.tell(x, "cache sets 2 ways 3 weighed"), 0);
        c.due("no fault", x.fault(), 0);
        c.due("no place", x.where(), NONE);
        c.due("no images", x.size(8), 0);
        c.due("no acts", x.size(7), 0);
        c.passed("nothing CACHED", x, x.lines(), 0);
        c.passed("memory anew", x, x.memory(1, 0), 0);
        c.due("back to an old image", x.back(0), false);
        x.image();
        x.image();
        x.image();
        c.due("a newer cache", Check.tell(x, "cache sets 2 ways 3 weighed"), 0);
        x.image();
        for (int image = 1; image < 3; image++) {
            c.due("back to the older image " + image, x.back(image), false);
            c.due("its trouble", x.trouble(), 1);
        }
        againAndAgain(x);
    }

    /** What an earlier text told is gone, whether it was taken or not. */
    private static void againAndAgain(PackedCache x) {
        c.due("all sorts", Check.tell(x, ONE + ";line 1 9 9 9 9 9 9 9 9;read 0 0;unsure 0 0 1;saw 0 hit"), 1);
        c.passed("no fits", x, x.fits(), 0);
        c.due("all sorts and a fault", Check.tell(x, ONE + ";line 2 9 9 9 9 9 9 9 9;read 0 0;unsure 0 0 1;saw 0 miss;x"), NONE);
        c.due("the CACHE stays, to its seen ones", x.fits(), 0);
        for (int turn = 0; turn < 2; turn++) {
            c.due("a plain one", Check.tell(x, "cache sets 1 ways 1 lately"), 0);
            c.passed("memory is 0", x, x.memory(1, 0) + x.memory(2, 0), 0);
            c.due("no lines", x.size(3), 0);
            c.due("nothing unsure", x.size(5), 0);
            c.due("nothing seen", x.size(6), 0);
            c.passed("one fit", x, x.fits(), 1);
        }
        c.due("line 1 is told once", Check.tell(x, ONE + ";line 1 9 9 9 9 9 9 9 9"), 0);
    }

    // Terms I
    private static void grammar() {
        PackedCache x = Check.of("  cache   sets 04ways00003weighed ;read  31 7; write 0 0 65535;unsure 31 7 0 ;saw 1 hit  ");
        c.due("blanks part: sets", x.size(0), 4);
        c.due("blanks part: ways", x.size(1), 3);
        c.due("blanks part: weighed", x.size(2), 1);
        c.due("blanks part: steps", x.size(4), 2);
        c.due("blanks part: unsure", x.size(5), 1);
        c.due("blanks part: seen", x.size(6), 1);
        c.fault("", 1, 0);
        c.fault("  ", 1, 2);
        c.fault("Cache", 1, 0);
        c.fault("cash", 1, 0);
        c.fault("caches sets", 1, 0);
        c.fault("cache set", 1, 6);
        c.fault("cache sets", 1, 10);
        c.fault("cache sets  ", 1, 12);
        c.fault("cache sets 000001 ways", 1, 11);
        c.fault("cache sets 1 way", 1, 13);
        c.fault("cache sets 1 ways 1", 1, 19);
        c.fault("cache sets 1 ways 1 late", 1, 20);
        c.fault("cache sets 1 ways 1 lately 5", 1, 27);
        c.fault("cache sets 1 ways 1 latelyweighed", 1, 20);
        c.fault(ONE + ";", 1, 27);
        c.fault(ONE + ";;", 1, 27);
        c.fault(ONE + "\n", 1, 26);
        c.fault(ONE + ";read 1", 1, 33);
        c.fault(ONE + ";read 1 2 3", 1, 36);
        c.fault(ONE + ";write 1 2", 1, 36);
        c.fault(ONE + ";read;read", 1, 31);
        c.fault(ONE + ";saw", 1, 30);
        c.fault(ONE + ";saw hit", 1, 31);
        c.fault(ONE + ";read 0 0;saw 0", 1, 41);
        c.fault(ONE + ";read 0 0;saw 0 hits", 1, 42);
        c.fault(ONE + ";line 0 1 2 3 4 5 6 7", 1, 47);
        c.fault(ONE + ";line 0 1 2 3 4 5 6 7 8 9", 1, 50);
        c.fault(ONE + ";abcdefghi", 1, 27);
        c.fault(ONE + ";read 0 0 ,", 1, 36);
        c.fault("-", 1, 0);
        c.fault("cache sets - ways 1 lately", 1, 11);
        c.fault("cache sets / ways 1 lately", 1, 11);
        c.fault("cache sets : ways 1 lately", 1, 11);
        c.fault("cache `", 1, 6);
        c.fault("cache {", 1, 6);
        c.fault(ONE + ";read 1 -", 1, 34);
        c.fault(ONE + ";head 1 1", 1, 27);
        c.fault(ONE + ";reads 1 1", 1, 27);
        c.fault(ONE + ";write 1 123456", 1, 35);
    }

    private static void faultsOfBounds() {
        c.fault("cache sets 0 ways 9", 4, 11);
        c.fault("cache sets 5 ways 9", 4, 11);
        c.fault("cache sets 4 ways 0", 4, 18);
        c.fault("cache sets 4 ways 5 x", 4, 18);
        c.fault(ONE + ";line 32 ", 4, 32);
        c.fault(ONE + ";line 31 65536", 4, 35);
        c.fault(ONE + ";line 0 0 0 0 0 0 0 0 65536", 4, 48);
        c.fault(ONE + ";read 32 9", 4, 32);
        c.fault(ONE + ";read 31 8", 4, 35);
        c.fault(ONE + ";write 32 0 0", 4, 33);
        c.fault(ONE + ";write 0 8 0", 4, 35);
        c.fault(ONE + ";write 0 7 65536", 4, 37);
        c.fault(ONE + ";write 0 7 99999", 4, 37);
        c.fault(ONE + ";unsure 32 0 0", 4, 34);
        c.fault(ONE + ";unsure 31 8 0", 4, 37);
        c.fault(ONE + ";unsure 31 7 65536", 4, 39);
        c.due("edges", Check.tell(new PackedCache(), "cache sets 4 ways 4 lately;line 31 65535 0 0 0 0 0 0 65535"
            + ";write 31 7 65535;unsure 31 7 65535"), 1);
    }

    private static void faultsOfOrder() {
        c.fault("line 0", 6, 0);
        c.fault(" read 99 ", 6, 1);
        c.fault("write", 6, 0);
        c.fault("unsure", 6, 0);
        c.fault("saw;" + ONE, 6, 0);
        c.fault(ONE + ";cache x", 3, 27);
        c.fault(ONE + "; " + ONE, 3, 28);
        c.fault(ONE + ";line 3 0 0 0 0 0 0 0 0;line 3 99999", 3, 55);
        c.fault(ONE + ";line 3 0 0 0 0 0 0 0 0;line 03", 3, 55);
        c.fault(ONE + ";unsure 1 2 3;unsure 1 2 3", 3, 49);
        c.due("other places", Check.tell(new PackedCache(), ONE + ";unsure 1 2 3;unsure 1 3 3;unsure 2 2 3"), 0);
        c.fault(ONE + ";read 0 0;saw 0 hit;saw 0 miss", 3, 50);
        c.fault(ONE + ";saw 0 hit;read 0 0", 2, 31);
        c.fault(ONE + ";read 0 0;saw 1 hit;read 0 0", 2, 40);
        c.fault(ONE + ";saw 99999 x", 2, 31);
        c.fault(ONE + ";saw 000001 x", 1, 31);
    }

    private static void faultsOfRoom() {
        StringBuilder lines = new StringBuilder(ONE);
        StringBuilder steps = new StringBuilder(ONE);
        for (int k = 0; k < 16; k++) {
            lines.append(";line ").append(k).append(" 0 0 0 0 0 0 0 0");
            steps.append(k % 2 == 0 ? ";read 0 0" : ";write 0 0 0");
        }
        c.due("16 lines", Check.of(lines.toString()).size(3), 16);
        c.fault(lines + "; line 0", 5, lines.length() + 2);
        c.due("16 steps", Check.of(steps.toString()).size(4), 16);
        c.fault(steps + ";read x", 5, steps.length() + 1);
        c.fault(steps + ";write 0 0 0", 5, steps.length() + 1);
        String seen = steps + ";saw 15 hit;saw 1 hit;saw 2 hit;saw 3 hit;saw 4 hit;saw 5 hit";
        c.due("6 seen", Check.of(seen).size(6), 6);
        c.fault(seen + ";saw 0 hit", 5, seen.length() + 1);
        String unsure = ONE + ";unsure 0 0 1;unsure 0 1 1;unsure 0 2 1;unsure 0 3 1";
        c.due("4 unsure", Check.of(unsure).size(5), 4);
        c.fault(unsure + ";unsure 0 3 1", 5, unsure.length() + 1);
    }

    // 6, 7
    private static void words() {
        PackedCache x = Check.of(ONE + ";line 31 1 2 3 4 5 6 7 65535");
        c.passed("word", x, x.word(31, 7), 65535);
        c.passed("memory", x, x.memory(31, 6), 7);
        c.passed("word of a line not told", x, x.word(0, 0), 0);
        x.write(31, 6, 9);
        c.passed("word as CACHED", x, x.word(31, 6), 9);
        c.passed("memory as it was", x, x.memory(31, 6), 7);
        int[][] wrong = {{-1, 0}, {32, 0}, {0, -1}, {0, 8}, {MIN, 0}, {MAX, 0}, {0, MIN}, {0, MAX}, {31, 8}};
        for (int[] w : wrong) {
            c.refused("word(" + w[0] + ", " + w[1] + ")", x, x.word(w[0], w[1]), 1);
            x.lines();
            c.refused("memory(" + w[0] + ", " + w[1] + ")", x, x.memory(w[0], w[1]), 1);
            x.lines();
        }
    }

    // 8, 9, 10, 11
    private static void forms() {
        PackedCache x = Check.of(ONE + FORMS);
        int[] bytes = {1, 2, 9, 11, 11, 13, 13, 16};
        int[] segments = {1, 1, 3, 3, 3, 4, 4, 4};
        for (int l = 0; l < 8; l++) {
            c.passed("form(" + l + ")", x, x.form(l), l);
            c.passed("bytes(" + l + ", its own)", x, x.bytes(l, l), bytes[l]);
            c.passed("segments(" + l + ")", x, x.segments(l), segments[l]);
            c.passed("bytes(" + l + ", RAW)", x, x.bytes(l, 7), 16);
        }
        c.passed("over the sign's edge", x, x.form(9), 4);
        c.passed("ZERO fits all", x, x.forms(0), 8);
        c.passed("RAW alone", x, x.forms(7), 1);
        c.passed("forms of 2: 2, 3, 5, RAW", x, x.forms(2), 4);
        c.passed("2 fits 3, with a BASE of 1000", x, x.bytes(2, 3), 11);
        c.passed("2 not by 4", x, x.bytes(2, 4), -2);
        c.passed("SAME, not ZERO", x, x.bytes(1, 0), -2);
        c.passed("not SAME", x, x.bytes(2, 1), -2);
        x.write(0, 7, 1);
        c.passed("as CACHED", x, x.form(0), 2);
        formEdges();
        for (int l : new int[] {-1, 32, MIN, MAX}) {
            c.refused("form " + l, x, x.form(l), 1);
            c.refused("bytes " + l, x, x.bytes(l, 9), 1);
            x.lines();
            c.refused("forms " + l, x, x.forms(l), 1);
            x.lines();
            c.refused("segments " + l, x, x.segments(l), 1);
        }
        for (int f : new int[] {-1, 8, MIN, MAX}) {
            c.refused("bytes of FORM " + f, x, x.bytes(0, f), 2);
        }
    }

    private static void formEdges() {
        c.due("a difference of 128", form("1000 1128 1000 1000 1000 1000 1000 999"), 5);
        c.due("a difference of -128", form("1000 872 1000 1000 1000 1000 1000 1000"), 3);
        c.due("a difference of -129", form("1000 871 1000 1000 1000 1000 1000 1000"), 5);
        c.due("SMALL 127 beside a BASE", form("1000 127 1000 1000 1000 1000 1000 1000"), 3);
        c.due("128 beside a BASE", form("1000 128 1000 1000 1000 1000 1000 1000"), 5);
        c.due("width 8, -128 is SMALL", form("65535 65535 65535 65408 7 300 9 500"), 4);
        c.due("width 8, -129 is SMALL by 2", form("65535 65535 65535 65407 7 300 9 500"), 6);
        c.due("width 8, -32,768 is SMALL by 2", form("65535 65535 65535 32768 7 300 9 500"), 6);
        c.due("width 8, -32,769 isn't SMALL", form("65535 65535 65535 32767 7 300 9 500"), 7);
        c.due("width 8, round and round", form("32767 65535 65535 65535 32768 0 0 126"), 4);
        c.due("width 8, round and round by 2", form("32767 65535 65535 65535 32768 0 0 127"), 6);
        c.due("width 8, as far as may be", form("1 500 3 1000 1 500 3 33767"), 6);
        c.due("width 8, too far", form("1 500 3 1000 1 500 3 33768"), 7);
        c.due("width 4 is never below 0", form("65535 65535 0 0 0 0 0 0"), 2);
        c.due("width 4, 4,294,967,295 isn't SMALL beside another BASE", form("9 1000 65535 65535 0 5 9 1100"), 7);
        c.due("width 2 is never below 0", form("65535 1 2 1 65408 65406 3 4"), 7);
        c.due("width 2 by 65535", form("65535 1 2 1 65408 65500 3 4"), 3);
    }

    private static PackedCache anyLine(String words) {
        return Check.of(ONE + ";line 5 " + words);
    }

    private static int form(String words) {
        return anyLine(words).form(5);
    }

    // 12, 13, 14
    private static void basesAndMasks() {
        PackedCache x = Check.of(ONE + FORMS);
        c.passed("BASE by 2", x, x.base(2, 2), 9 * 65536 + 1000);
        c.passed("MASK by 2", x, x.mask(2, 2), 8);
        c.passed("DIFFERENCE by 2", x, x.difference(2, 2, 2), 127);
        c.passed("DIFFERENCE in the MASK", x, x.difference(2, 2, 3), 127);
        c.passed("BASE by 3", x, x.base(3, 3), 1000);
        c.passed("MASK by 3", x, x.mask(3, 3), 16 + 32 + 128);
        c.passed("DIFFERENCE by 3", x, x.difference(3, 3, 3), -128);
        c.passed("DIFFERENCE by 3 in the MASK", x, x.difference(3, 3, 7), 5);
        c.passed("BASE by 4", x, x.base(9, 4), Long.MAX_VALUE);
        c.passed("DIFFERENCE round and round", x, x.difference(9, 4, 1), 1);
        c.passed("MASK by 4", x, x.mask(9, 4), 0);
        c.passed("BASE by 5", x, x.base(5, 5), 9 * 65536 + 1000);
        c.passed("MASK by 5", x, x.mask(5, 5), 4);
        c.passed("DIFFERENCE by 5", x, x.difference(5, 5, 3), -32768);
        c.passed("BASE by 6", x, x.base(6, 6), (1L << 48) + (2L << 32) + (900L << 16) + 1000);
        c.passed("DIFFERENCE by 6", x, x.difference(6, 6, 1), 32767);
        c.passed("BASE that doesn't fit", x, x.base(7, 3), 60000);
        c.passed("DIFFERENCE that doesn't fit", x, x.difference(7, 3, 3), -55000);
        c.passed("BASE of SMALL ones", x, x.base(0, 2), 0);
        c.passed("MASK of SMALL ones", x, x.mask(0, 3), 255);
        c.passed("MASK of SMALL ones by 6", x, x.mask(0, 6), 3);
        x = anyLine("65535 65535 65535 65535 0 0 0 127");
        c.passed("BASE 0: -1 is SMALL", x, x.base(5, 4), 0);
        c.passed("DIFFERENCE -1", x, x.difference(5, 4, 0), -1);
        c.due("which is no refusal", x.trouble(), 0);
        x.write(5, 7, 900);
        c.passed("BASE NOW", x, x.base(5, 4), 900);
        for (int form : new int[] {-1, 0, 1, 7, 8, MIN, MAX}) {
            c.refused("base by " + form, x, x.base(0, form), 2);
            c.refused("base of no line by " + form, x, x.base(32, form), 1);
            c.refused("mask by " + form, x, x.mask(0, form), 2);
            c.refused("mask of no line by " + form, x, x.mask(-1, form), 1);
            c.refused("difference by " + form, x, x.difference(0, form, 0), 2);
            c.refused("difference of no line by " + form, x, x.difference(32, form, 0), 1);
            x.lines();
        }
        int[] lanes = {0, 0, 4, 8, 2, 4, 2};
        for (int form = 2; form <= 6; form++) {
            c.passed("last lane by " + form, x, x.difference(0, form, lanes[form] - 1), 0);
            c.refused("a lane too many by " + form, x, x.difference(0, form, lanes[form]), 1);
            c.refused("lane -1", x, x.difference(0, form, -1), 1);
        }
    }

    // 15
    private static void linesOf() {
        PackedCache x = Check.of(ONE + FORMS);
        int[] due = {24, 1, 1, 1, 2, 1, 1, 1};
        for (int f = 0; f < 8; f++) {
            c.passed("linesOf(" + f + ")", x, x.linesOf(f), due[f]);
        }
        x.write(31, 0, 1);
        c.passed("linesOf NOW", x, x.linesOf(0), 23);
        for (int f : new int[] {-1, 8, MIN, MAX}) {
            c.refused("linesOf(" + f + ")", x, x.linesOf(f), 2);
        }
    }

    // 16, 17, 18, 19, 24
    private static void setsAndTags() {
        PackedCache x = Check.of("cache sets 3 ways 2 lately;line 4 1 60000 2 5000 3 40000 4 20000");
        x.read(1, 0);
        x.write(4, 0, 2);
        x.read(7, 0);
        x.read(1, 7);
        x.read(2, 0);
        c.passed("tags", x, x.set(1, 0), 3);
        c.passed("segments", x, x.set(1, 1), 6);
        c.passed("dirty", x, x.set(1, 2), 1);
        c.passed("free", x, x.set(1, 3), 2);
        c.passed("an empty set's free ones", x, x.set(0, 3), 8);
        c.passed("another set's", x, x.set(2, 0), 1);
        c.passed("tag 0", x, x.tag(1, 0), 1);
        c.passed("tag 1", x, x.tag(1, 1), 7);
        c.passed("tag 2", x, x.tag(1, 2), 4);
        c.refused("tag 3", x, x.tag(1, 3), 1);
        c.refused("tag -1", x, x.tag(1, -1), 1);
        c.refused("tag of an empty set", x, x.tag(0, 0), 1);
        c.passed("cached set", x, x.cached(4, 0), 1);
        c.passed("cached used", x, x.cached(1, 1), 2);
        c.passed("cached used once", x, x.cached(7, 1), 1);
        c.passed("cached dirty", x, x.cached(4, 2), 1);
        c.passed("cached not dirty", x, x.cached(1, 2), 0);
        c.passed("cached since", x, x.cached(4, 3), 2);
        c.passed("cached since, the latest of its set", x, x.cached(1, 3), 0);
        c.passed("isCached", x, x.isCached(7), 1);
        c.passed("isn't cached", x, x.isCached(10), 0);
        c.passed("lines", x, x.lines(), 4);
        c.refused("cached of a line that isn't", x, x.cached(10, 0), 1);
        for (int what : new int[] {-1, 4, MIN, MAX}) {
            x.lines();
            c.refused("set's what " + what, x, x.set(1, what), 1);
            x.lines();
            c.refused("cached's what " + what, x, x.cached(1, what), 1);
            x.lines();
            c.refused("set " + what, x, x.set(what, 0), 1);
            x.lines();
            c.refused("tag of set " + what, x, x.tag(what, 0), 1);
            c.passed("lines", x, x.lines(), 4);
            int l = what == 4 ? 32 : what;
            c.refused("cached of line " + l, x, x.cached(l, 0), 1);
            x.lines();
            c.refused("isCached of line " + l, x, x.isCached(l), 1);
        }
        c.refused("set 3 of 3", x, x.set(3, 0), 1);
        x.drop(7);
        c.passed("since, without the dropped", x, x.cached(4, 3), 1);
        c.passed("lines, without the dropped", x, x.lines(), 3);
    }

    // 20, 21
    private static void victimsLately() {
        PackedCache x = Check.of("cache sets 2 ways 2 lately;line 8 1 60000 2 5000 3 40000 4 20000");
        c.passed("victim of an empty set", x, x.victim(0), -2);
        x.read(0, 0);
        x.read(2, 0);
        x.read(4, 0);
        x.read(6, 0);
        x.read(0, 0);
        c.passed("used least lately", x, x.victim(0), 2);
        c.passed("the other set is empty", x, x.victim(1), -2);
        c.passed("tags are full: one goes", x, x.makesRoom(10), 1);
        c.passed("none goes for one CACHED", x, x.makesRoom(2), 0);
        c.passed("none goes in another set", x, x.makesRoom(1), 0);
        c.passed("asking changes nothing", x, x.victim(0), 2);
        c.passed("segments and tags: one goes for RAW", x, x.makesRoom(8), 1);
        x.write(0, 1, 60000);
        x.write(0, 3, 5000);
        c.passed("4 SEGMENTS", x, x.write(0, 5, 40000), 5);
        c.passed("all its room", x, x.set(0, 3), 1);
        c.passed("three go", x, x.makesRoom(8), 3);
        x.read(8, 0);
        c.passed("two of 4 SEGMENTS", x, x.set(0, 0), 2);
        c.passed("the first stays", x, x.tag(0, 1), 0);
        c.passed("no room", x, x.set(0, 3), 0);
        c.refused("victim of no set", x, x.victim(2), 1);
        c.refused("victim of set -1", x, x.victim(-1), 1);
        c.refused("victim of MAX", x, x.victim(MAX), 1);
        for (int l : new int[] {-1, 32, MIN, MAX}) {
            x.lines();
            c.refused("makesRoom " + l, x, x.makesRoom(l), 1);
        }
    }

    private static void victimsWeighed() {
        PackedCache x = Check.of("cache sets 1 ways 2 weighed;line 1 1000 1001 1000 1001 1000 1001 1000 1001"
            + ";line 2 2000 2001 2000 2001 2000 2001 2000 2001;line 3 1 60000 2 5000 3 40000 4 20000");
        x.read(1, 0);
        x.read(2, 0);
        x.read(0, 0);
        c.passed("1 by 3, the longer ago", x, x.victim(0), 1);
        x.read(1, 0);
        c.passed("2 by 3, 1 by 3, 1", x, x.victim(0), 2);
        x.read(2, 0);
        x.read(2, 0);
        x.read(1, 0);
        c.passed("3 by 3, 3 by 3, 1: all alike, the longest ago", x, x.victim(0), 0);
        x.read(1, 0);
        x.read(0, 0);
        c.passed("4 by 3, 3 by 3, 2", x, x.victim(0), 2);
        c.passed("one goes for RAW", x, x.makesRoom(3), 1);
        x.read(3, 0);
        c.passed("it isn't there", x, x.isCached(2), 0);
        c.passed("RAW, 1 by 4", x, x.victim(0), 3);
        c.passed("the others are", x, x.set(0, 1), 8);
        x.read(2, 0);
        c.passed("USED 1 again", x, x.cached(2, 1), 1);
        c.passed("the latest is a victim, too", x, x.isCached(3), 0);
    }

    // 22
    private static void grows() {
        PackedCache x = Check.of("cache sets 1 ways 2 lately;line 3 1 60000 2 5000 3 40000 4 20000"
            + ";line 4 1 60000 2 5000 3 40000 0 0;line 5 500 500 500 500 500 500 500 500");
        x.read(0, 0);
        x.read(5, 0);
        x.read(1, 0);
        x.read(2, 0);
        c.passed("SAME grows by two", x, x.growsOver(5, 0, 501), 0);
        c.passed("the same WORD", x, x.growsOver(5, 0, 500), 0);
        c.passed("a miss, four tags", x, x.growsOver(6, 0, 0), 1);
        c.passed("a miss and growth", x, x.growsOver(6, 0, 300), 1);
        x.read(3, 0);
        c.passed("one went for RAW, of tags", x, x.lines(), 4);
        c.passed("7 taken", x, x.set(0, 1), 7);
        c.passed("grows over one", x, x.growsOver(1, 0, 300), 1);
        c.passed("a miss over one, growth over two", x, x.growsOver(6, 0, 300), 2);
        c.passed("never it, though longest ago", x, x.growsOver(5, 7, 501), 1);
        c.passed("written", x, x.write(5, 7, 501), 2);
        c.passed("it stays", x, x.isCached(5), 1);
        c.passed("1 went", x, x.isCached(1), 0);
        c.passed("a RAW one for 4", x, x.makesRoom(4), 2);
        c.passed("nothing changed", x, x.lines(), 3);
        c.refused("no line", x, x.growsOver(32, 0, -1), 1);
        x.lines();
        c.refused("no place", x, x.growsOver(0, 8, 65536), 1);
        x.lines();
        c.refused("no line -1", x, x.growsOver(-1, 0, 0), 1);
        x.lines();
        c.refused("no place -1", x, x.growsOver(0, -1, 0), 1);
        c.refused("WORD -1", x, x.growsOver(0, 0, -1), 2);
        c.refused("WORD 65536", x, x.growsOver(0, 0, 65536), 2);
        c.passed("WORD 65535", x, x.growsOver(3, 0, 65535), 0);
        growsWeighed();
    }

    private static void growsWeighed() {
        PackedCache x = Check.of("cache sets 1 ways 1 weighed");
        x.read(1, 0);
        x.read(0, 0);
        x.read(0, 0);
        c.passed("3 to 1: never it, though the least", x, x.write(1, 0, 300), 2);
        c.passed("both have room", x, x.set(0, 1), 4);
        x.write(1, 1, 3000);
        x.write(1, 2, 30000);
        c.passed("to RAW", x, x.write(1, 4, 50), 7);
        c.passed("the other went", x, x.isCached(0), 0);
        c.passed("it stays", x, x.cached(1, 1), 5);
    }

    // 23
    private static void ratios() {
        PackedCache x = Check.of("cache sets 1 ways 4 lately" + FORMS);
        x.word(32, 0);
        c.passed("1 by 1, upper", x, x.ratio(false), 1);
        c.passed("1 by 1, lower", x, x.ratio(true), 1);
        x.read(7, 0);
        c.passed("16 by 16, upper", x, x.ratio(false), 1);
        c.passed("16 by 16, lower", x, x.ratio(true), 1);
        x.read(1, 0);
        c.passed("32 by 18, upper", x, x.ratio(false), 16);
        c.passed("32 by 18, lower", x, x.ratio(true), 9);
        x.read(3, 0);
        c.passed("48 by 29, upper", x, x.ratio(false), 48);
        c.passed("48 by 29, lower", x, x.ratio(true), 29);
        x.write(7, 0, 1);
        c.passed("48 by 29 still", x, x.ratio(true), 29);
    }

    private static final String RUN = ONE + ";line 1 7 7 7 7 7 7 7 7;line 2 1000 1001 1002 1003 1000 1001 1002 1003"
        + ";read 0 0;write 1 3 7;read 0 5;read 1 1;write 2 0 1000;read 1 0;write 0 0 65535;read 2 0";

    // 25, 26, 27, 28
    private static void runs() {
        // 0 miss; 1 miss, dirty; 0, 1 hit; 2 takes 3: 0 goes, 1 stays; 1 hits;
        // 0 comes: 2 goes (back), grows to 3: 1 + 3 SEGMENTS; 2 takes 3: 1 and 0 go, both back
        PackedCache x = Check.of(RUN);
        for (int turn = 0; turn < 2; turn++) {
            c.passed("runHits", x, x.runHits(), 3);
            c.passed("runVictims", x, x.runVictims(), 4);
            c.passed("runBacks", x, x.runBacks(), 3);
            int[] steps = {0, 0, 1, 1, 0, 1, 0, 0};
            for (int k = 0; k < steps.length; k++) {
                c.passed("runStep(" + k + ")", x, x.runStep(k), steps[k]);
            }
            c.refused("runStep(8)", x, x.runStep(8), 1);
            x.lines();
            c.refused("runStep(-1)", x, x.runStep(-1), 1);
            x.lines();
            c.refused("runStep(MAX)", x, x.runStep(MAX), 1);
            c.passed("nothing is CACHED by a run", x, x.lines(), turn);
            // what is written NOW is nothing to RUN
            x.write(0, 1, 12345);
            x.write(0, 3, 54321);
            x.clean();
        }
        x = Check.of(ONE);
        c.passed("hits of no STEPS", x, x.runHits(), 0);
        c.refused("no STEP", x, x.runStep(0), 1);
    }

    // 29, 30
    private static void plain() {
        PackedCache x = Check.of(RUN);
        c.passed("plainHits, one way", x, x.plainHits(), 0);
        c.passed("plainBacks, one way", x, x.plainBacks(), 3);
        x = Check.of(RUN.replace("ways 1", "ways 2"));
        // 0, 1, hits of both; 2 for 0; 1 hits; 0 for 2 (back); 2 for 1 (back)
        c.passed("plainHits, two ways", x, x.plainHits(), 3);
        c.passed("plainBacks, two ways", x, x.plainBacks(), 2);
        x = Check.of("cache sets 1 ways 2 weighed;read 0 0;read 0 0;read 1 0;read 2 0;read 0 0");
        c.passed("plain goes lately, weighed or not", x, x.plainHits(), 1);
        x = Check.of("cache sets 2 ways 1 weighed;read 0 0;read 1 0;write 0 0 0;read 1 0;read 2 0");
        c.passed("plain has sets", x, x.plainHits(), 2);
        c.passed("plain writes back what was written alike", x, x.plainBacks(), 1);
    }

    // 31, 32
    private static void byWays() {
        PackedCache x = Check.of(ONE + ";read 0 0;read 1 0;read 2 0;read 3 0;read 4 0;read 0 0;read 1 0;read 2 0;read 3 0;read 4 0");
        c.passed("by 1 way, two tags", x, x.hitsBy(1), 0);
        c.passed("by 2 ways, four tags", x, x.hitsBy(2), 0);
        c.passed("by 3 ways, six tags", x, x.hitsBy(3), 5);
        c.passed("by 4 ways", x, x.hitsBy(4), 5);
        c.passed("ways for 0", x, x.waysFor(0), 1);
        c.passed("ways for 1", x, x.waysFor(1), 3);
        c.passed("ways for 5", x, x.waysFor(5), 3);
        c.passed("ways for 6", x, x.waysFor(6), -2);
        c.passed("ways for 16", x, x.waysFor(16), -2);
        c.passed("ways as told", x, x.runHits(), 0);
        for (int w : new int[] {0, -1, 5, MIN, MAX}) {
            c.refused("hitsBy(" + w + ")", x, x.hitsBy(w), 2);
        }
        for (int n : new int[] {-1, 17, MIN, MAX}) {
            c.refused("waysFor(" + n + ")", x, x.waysFor(n), 2);
        }
        x = Check.of(ONE.replace("lately", "weighed") + ";read 0 0;read 0 0;read 1 0;read 2 0;read 0 0");
        c.passed("weighed as told", x, x.hitsBy(1), 2);
        x = Check.of(ONE.replace("sets 1", "sets 2") + ";read 0 0;read 2 0;read 1 0;read 3 0;read 0 0");
        c.passed("sets as told", x, x.hitsBy(1), 1);
    }

    /** Line 0 takes 1 SEGMENT, or 3 by one other WORD, 4 by both; line 1 takes 1. */
    private static final String SURE = ONE + ";unsure 0 0 300;unsure 0 7 40000;unsure 9 0 5;read 1 0;read 0 0;read 1 0";

    // 33, 34, 35, 36
    private static void unsure() {
        PackedCache x = Check.of(SURE + ";saw 2 miss;saw 0 miss");
        c.passed("fits", x, x.fits(), 2);
        c.passed("fitAt(0)", x, x.fitAt(0), 3);
        c.passed("fitAt(1)", x, x.fitAt(1), 7);
        c.refused("fitAt(2)", x, x.fitAt(2), 1);
        x.lines();
        c.refused("fitAt(-1)", x, x.fitAt(-1), 1);
        c.passed("could", x, x.could(), 7);
        c.passed("surely", x, x.surely(), 3);
        x = Check.of(SURE + ";saw 2 hit");
        c.passed("fits if it hits", x, x.fits(), 6);
        int[] sets = {0, 1, 2, 4, 5, 6};
        for (int k = 0; k < 6; k++) {
            c.passed("fitAt by numbers " + k, x, x.fitAt(k), sets[k]);
        }
        c.passed("could if it hits", x, x.could(), 7);
        c.passed("surely if it hits", x, x.surely(), 0);
        x.write(0, 0, 300);
        x.write(0, 7, 40000);
        x.clean();
        c.passed("fits from the beginning on", x, x.fits(), 6);
        x = Check.of(SURE + ";saw 0 hit");
        c.passed("no fits", x, x.fits(), 0);
        c.passed("no could", x, x.could(), 0);
        c.passed("no surely", x, x.surely(), 0);
        c.refused("no fitAt", x, x.fitAt(0), 1);
        x = Check.of(ONE);
        c.passed("nothing unsure", x, x.fits(), 1);
        c.passed("nothing unsure: fitAt", x, x.fitAt(0), 0);
        x = Check.of(ONE + ";unsure 0 0 0;unsure 1 0 0;unsure 2 0 0;unsure 3 0 0");
        c.passed("nothing seen", x, x.fits(), 16);
        c.passed("the last of 16", x, x.fitAt(15), 15);
        c.passed("could be all", x, x.could(), 15);
    }

    // 37, 38
    private static void asks() {
        PackedCache x = Check.of(SURE + ";saw 2 hit");
        // by 0: 2 and 4; by 1: 2 and 4; by 2: 3 and 3
        c.passed("ask", x, x.ask(), 2);
        c.passed("askLeaves", x, x.askLeaves(), 3);
        x = Check.of(SURE + ";saw 2 miss");
        c.passed("ask what parts them", x, x.ask(), 2);
        c.passed("askLeaves one", x, x.askLeaves(), 1);
        x = Check.of(SURE);
        c.passed("ask the first such", x, x.ask(), 0);
        c.passed("askLeaves half", x, x.askLeaves(), 4);
        x = Check.of(SURE + ";saw 0 hit");
        c.passed("ask, no fits", x, x.ask(), -2);
        c.passed("askLeaves, no fits", x, x.askLeaves(), -2);
        x = Check.of(ONE);
        c.passed("ask, nothing unsure", x, x.ask(), -2);
        c.passed("askLeaves, nothing unsure", x, x.askLeaves(), -2);
        asksInOrder();
    }

    /** The FITS are parted best (3 and 3) by the WORD of line 9, wherever it is told; by each other one 2 and 4. */
    private static void asksInOrder() {
        String[] told = {";unsure 9 0 5", ";unsure 0 0 300", ";unsure 0 7 40000"};
        String steps = ";read 1 0;read 0 0;read 1 0;saw 2 hit";
        PackedCache x = Check.of(ONE + told[0] + told[1] + told[2] + steps);
        c.passed("ask the first, the others leave more", x, x.ask(), 0);
        c.passed("askLeaves by the first", x, x.askLeaves(), 3);
        x = Check.of(ONE + told[1] + told[0] + told[2] + steps);
        c.passed("ask the one between", x, x.ask(), 1);
        c.passed("askLeaves by the one between", x, x.askLeaves(), 3);
        x = Check.of(ONE + told[1] + told[2] + told[0] + steps);
        c.passed("ask the last", x, x.ask(), 2);
        c.passed("askLeaves by the last", x, x.askLeaves(), 3);
        x = Check.of(ONE + told[1] + told[0] + told[2] + ";unsure 8 0 5" + steps);
        c.passed("ask the first of two that are alike", x, x.ask(), 1);
        c.passed("askLeaves by each of them", x, x.askLeaves(), 6);
        x = Check.of(ONE + told[0] + told[1] + told[2] + steps.replace("saw 2 hit", "saw 2 miss"));
        c.passed("ask not what all agree on", x, x.ask(), 0);
        c.passed("askLeaves one", x, x.askLeaves(), 1);
        x = Check.of(ONE + told[1] + told[2] + steps.replace("saw 2 hit", "saw 2 miss"));
        c.passed("ask what all agree on, if there is no other", x, x.ask(), 0);
        c.passed("askLeaves all", x, x.askLeaves(), 1);
    }

    // 39
    private static void judges() {
        PackedCache x = Check.of(SURE + ";saw 2 hit;saw 0 miss");
        c.passed("all is so", x, x.judge(), -2);
        x = Check.of(SURE + ";saw 0 miss;saw 2 miss;saw 1 hit");
        c.passed("the first that isn't", x, x.judge(), 1);
        x = Check.of(SURE + ";saw 2 miss");
        x.word(32, 0);
        c.passed("as told, not by its STEP", x, x.judge(), 0);
        x = Check.of(ONE);
        c.passed("nothing seen", x, x.judge(), -2);
    }

    // 40, 41
    private static void drawn() {
        PackedCache x = Check.of("cache sets 1 ways 1 lately;line 1 7 7 7 7 7 7 7 7");
        // from 0: 74, 5624 (line 10; 0: a write), 28652 (place 4), 51810 (word 210)
        c.passed("no USES", x, x.drawnHits(0, 0), 0);
        c.passed("one USE", x, x.drawnHits(0, 1), 0);
        x.write(10, 0, 0);
        c.passed("the first is of line 10", x, x.drawnHits(0, 1), 1);
        c.passed("drawnBacks", x, x.drawnBacks(0, 1), 0);
        c.passed("it changes nothing", x, x.word(10, 4), 0);
        c.passed("nor how often it was used", x, x.cached(10, 1), 1);
        c.passed("not an act", x, x.size(7), 1);
        // 65536 is -1: (-75 + 74) mod 65537 = 65536 for ever: line 0, 0: a write, place 0, WORD 136: 3 SEGMENTS
        c.passed("65536 stays: hits", x, x.drawnHits(65536, 200), 199);
        c.passed("65536 stays: backs", x, x.drawnBacks(65536, 200), 0);
        x.write(10, 0, 300);
        c.passed("3 SEGMENTS and 1: no more room for 3, back", x, x.drawnBacks(65536, 200), 1);
        c.passed("back, but not NOW", x, x.memory(10, 0), 0);
        int[][] wrong = {{-1, 0}, {65537, 0}, {0, -1}, {0, 201}, {MIN, 0}, {0, MIN}, {MAX, 0}, {0, MAX}};
        for (int[] w : wrong) {
            c.refused("drawnHits(" + w[0] + ", " + w[1] + ")", x, x.drawnHits(w[0], w[1]), 2);
            x.lines();
            c.refused("drawnBacks(" + w[0] + ", " + w[1] + ")", x, x.drawnBacks(w[0], w[1]), 2);
            x.lines();
        }
    }

    // 42, 43
    private static void readsAndWrites() {
        PackedCache x = Check.of("cache sets 1 ways 1 lately;line 1 1 2 3 4 5 6 7 8");
        c.passed("read", x, x.read(1, 7), 8);
        c.passed("used 1", x, x.cached(1, 1), 1);
        c.passed("not dirty", x, x.cached(1, 2), 0);
        c.passed("read again", x, x.read(1, 0), 1);
        c.passed("used 2", x, x.cached(1, 1), 2);
        c.passed("write the same", x, x.write(1, 0, 1), 3);
        c.passed("dirty by the same", x, x.cached(1, 2), 1);
        c.passed("used 3", x, x.cached(1, 1), 3);
        c.passed("write a miss", x, x.write(2, 7, 65535), 2);
        c.passed("it went", x, x.isCached(1), 0);
        c.passed("used 1 by a write", x, x.cached(2, 1), 1);
        c.passed("read what was written", x, x.read(2, 7), 65535);
        c.passed("memory has it not", x, x.memory(2, 7), 0);
        c.passed("read another", x, x.read(3, 0), 0);
        c.passed("both are there", x, x.lines(), 2);
        c.passed("one to make it go", x, x.read(1, 0), 1);
        c.passed("written back", x, x.memory(2, 7), 65535);
        int kept = x.size(7);
        int[][] wrong = {{-1, 0}, {32, 0}, {0, -1}, {0, 8}, {MIN, 0}, {MAX, 0}, {0, MIN}, {0, MAX}};
        for (int[] w : wrong) {
            c.refused("read(" + w[0] + ", " + w[1] + ")", x, x.read(w[0], w[1]), 1);
            x.lines();
            c.refused("write(" + w[0] + ", " + w[1] + ")", x, x.write(w[0], w[1], -1), 1);
            x.lines();
        }
        c.refused("write -1", x, x.write(0, 0, -1), 2);
        c.refused("write 65536", x, x.write(0, 0, 65536), 2);
        c.due("what is refused isn't kept", x.size(7), kept);
        c.passed("nor done", x, x.isCached(0), 0);
    }

    // 44, 45
    private static void dropsAndCleans() {
        PackedCache x = Check.of("cache sets 2 ways 2 lately");
        c.refused("clean, none DIRTY", x, x.clean(), 6);
        c.refused("drop, not CACHED", x, x.drop(0), 5);
        x.write(0, 0, 5);
        x.write(1, 1, 6);
        x.read(2, 0);
        c.passed("drop, not DIRTY", x, x.drop(2), 0);
        c.passed("drop, DIRTY", x, x.drop(0), 1);
        c.passed("dropped", x, x.isCached(0), 0);
        c.passed("written back", x, x.memory(0, 0), 5);
        c.refused("drop again", x, x.drop(0), 5);
        x.write(3, 0, 1);
        c.passed("clean", x, x.clean(), 2);
        c.passed("written back by clean", x, x.memory(1, 1), 6);
        c.passed("still CACHED", x, x.isCached(1), 1);
        c.passed("used as often", x, x.cached(1, 1), 1);
        c.passed("dirty no more", x, x.cached(1, 2), 0);
        c.refused("clean again", x, x.clean(), 6);
        c.passed("drop what was cleaned", x, x.drop(1), 0);
        for (int l : new int[] {-1, 32, MIN, MAX}) {
            c.refused("drop(" + l + ")", x, x.drop(l), 1);
        }
        c.due("eight acts", x.size(7), 8);
    }

    // 46
    private static void undoes() {
        PackedCache x = Check.of("cache sets 1 ways 1 lately");
        c.due("nothing to undo", x.undo(), false);
        c.due("nothing to undo: 6", x.trouble(), 6);
        for (int k = 0; k < 20; k++) {
            x.write(0, 0, k);
        }
        c.due("16 are kept", x.size(7), 16);
        for (int k = 18; k >= 3; k--) {
            c.due("undo to " + k, x.undo(), true);
            c.due("no trouble", x.trouble(), 0);
            c.passed("word " + k, x, x.word(0, 0), k);
            c.passed("used", x, x.cached(0, 1), k + 1);
            c.due("left", x.size(7), k - 3);
        }
        c.due("no more", x.undo(), false);
        c.passed("it stays", x, x.word(0, 0), 3);
        x.read(1, 0);
        x.read(0, 0);
        x.clean();
        x.drop(0);
        c.due("undo drop", x.undo(), true);
        c.passed("it is back", x, x.cached(0, 1), 5);
        c.due("undo clean", x.undo(), true);
        c.passed("dirty again", x, x.cached(0, 2), 1);
        c.passed("memory again", x, x.memory(0, 0), 0);
        c.due("undo read", x.undo(), true);
        c.passed("last used again", x, x.victim(0), 0);
        c.due("undo a miss", x.undo(), true);
        c.passed("not CACHED again", x, x.isCached(1), 0);
        x = Check.of(ONE + ";line 1 7 7 7 7 7 7 7 7;line 3 1 60000 2 5000 3 40000 4 20000");
        x.write(0, 0, 0);
        for (int i = 0; i < 8; i++) {
            x.write(1, i, 5);
        }
        x.read(0, 0);
        x.read(3, 0);
        c.passed("both went", x, x.lines(), 1);
        c.passed("written back", x, x.memory(1, 7), 5);
        c.due("undo victims", x.undo(), true);
        c.passed("both are back", x, x.set(0, 0), 2);
        c.passed("as often used", x, x.cached(0, 1), 2);
        c.passed("dirty", x, x.set(0, 2), 2);
        c.passed("not written back", x, x.memory(1, 7), 7);
    }

    // 47, 48
    private static void images() {
        PackedCache x = Check.of("cache sets 1 ways 1 lately");
        c.due("no image", x.back(0), false);
        c.due("no image: 1", x.trouble(), 1);
        c.passed("image 0", x, x.image(), 0);
        x.write(0, 0, 5);
        c.passed("image 1", x, x.image(), 1);
        x.write(0, 0, 6);
        x.clean();
        c.passed("image 2", x, x.image(), 2);
        c.refused("no room", x, x.image(), 3);
        c.due("three", x.size(8), 3);
        c.due("acts stay", x.size(7), 3);
        c.due("undo beside images", x.undo(), true);
        c.due("back to 1", x.back(1), true);
        c.due("back: no trouble", x.trouble(), 0);
        c.passed("word of 1", x, x.word(0, 0), 5);
        c.passed("memory of 1", x, x.memory(0, 0), 0);
        c.passed("dirty as of 1", x, x.cached(0, 2), 1);
        c.due("nothing can be undone", x.undo(), false);
        c.due("no acts", x.size(7), 0);
        c.due("all images stay", x.size(8), 3);
        x.write(0, 0, 9);
        c.due("undo after back", x.undo(), true);
        c.passed("to the image", x, x.word(0, 0), 5);
        c.due("back to 2", x.back(2), true);
        c.passed("memory of 2", x, x.memory(0, 0), 6);
        c.passed("word of 2", x, x.word(0, 0), 6);
        c.due("back to 0", x.back(0), true);
        c.passed("nothing CACHED", x, x.lines(), 0);
        c.due("back to 1 again", x.back(1), true);
        c.passed("an image isn't touched", x, x.word(0, 0), 5);
        for (int image : new int[] {-1, 3, MIN, MAX}) {
            x.lines();
            c.due("back(" + image + ")", x.back(image), false);
            c.due("back's trouble", x.trouble(), 1);
        }
        c.passed("it stays", x, x.word(0, 0), 5);
        Check.feed(x, "abc");
        x.back(0);
        c.due("the tape is no part of it", x.size(9), 20);
    }

    // 49, 50
    private static void ledAndSize() {
        PackedCache x = Check.of("cache sets 4 ways 3 weighed;line 1 0 0 0 0 0 0 0 0;line 2 0 0 0 0 0 0 0 0;read 0 0"
            + ";write 0 0 0;read 1 1;unsure 0 0 1;unsure 1 0 1;saw 2 hit;unsure 2 0 1;unsure 3 0 1;saw 1 miss;saw 0 miss;read 5 5;read 6 6");
        int[] due = {4, 3, 1, 2, 5, 4, 3, 0, 0, 0};
        for (int what = 0; what < 10; what++) {
            c.due("size(" + what + ")", x.size(what), due[what]);
        }
        c.due("lately", Check.of(ONE).size(2), 0);
        x.write(31, 0, 1);
        x.read(2, 0);
        x.write(4, 0, 1);
        x.write(9, 0, 1);
        x.drop(32);
        c.due("led(0)", x.led(0), 4);
        c.due("led(1)", x.led(1), 9);
        c.due("led(2)", x.led(2), 31);
        for (int i : new int[] {3, -1, MIN, MAX}) {
            c.due("led(" + i + ") throws", ledThrows(x, i), true);
        }
        c.due("led is no call that may be refused", x.trouble(), 1);
        for (int what : new int[] {-1, 10, MIN, MAX}) {
            c.due("size(" + what + ")", x.size(what), NONE);
        }
        c.due("nor is size", x.trouble(), 1);
        x.image();
        x.feed(0, 0, 0, 0, 0);
        c.due("acts", x.size(7), 4);
        c.due("images", x.size(8), 1);
        c.due("tape", x.size(9), 20);
        x.clean();
        c.due("none is DIRTY", ledThrows(x, 0), true);
    }

    // 51
    private static void troubles() {
        PackedCache x = Check.of(ONE);
        c.due("not refused", x.trouble(), 0);
        x.cache(-1);
        c.due("2", x.trouble(), 2);
        c.due("2 again", x.trouble(), 2);
        x.fault();
        x.where();
        x.size(-5);
        x.feed(1, 2, 3, 4, 5);
        c.due("2 after calls that can't be refused", x.trouble(), 2);
        x.back(0);
        c.due("1", x.trouble(), 1);
        x.drop(0);
        c.due("5", x.trouble(), 5);
        x.undo();
        c.due("6", x.trouble(), 6);
        x.image();
        c.due("0", x.trouble(), 0);
        x.image();
        x.image();
        x.image();
        c.due("3", x.trouble(), 3);
        x.cache(20);
        c.due("4", x.trouble(), 4);
        x.could();
        c.due("0 by any that is answered", x.trouble(), 0);
    }
}
