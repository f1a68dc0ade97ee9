/** The edges of THE TAPE, of cache(n) and of the text (Terms I, promises 2 to 5), each with a test of its own. */
public final class TextEdgesTest {
    private static final int NONE = PackedCache.NONE;
    private static final int MIN = Integer.MIN_VALUE;
    private static final int MAX = Integer.MAX_VALUE;
    private static final int BLANKS = 0x20202020;
    private static final int PARTS = 0x3b3b3b3b;
    private static final String ONE = "cache sets 1 ways 1 lately";
    private static final Check c = new Check("text edges");

    /** A text of each sort of LINE, as far as it can be told alone behind ONE. */
    private static final String[] LINES = {"line 31 1 2 3 4 5 6 7 65535", "read 31 7", "write 31 7 65535", "unsure 31 7 65535"};

    public static void main(String[] args) {
        tapeFull();
        tapeBytes();
        cacheTooSmallOrLarge();
        cacheOfPart();
        formAtTheEnd();
        formAtEachToken();
        formAtEachByte();
        formOfLongRuns();
        stepsUntold();
        toldAlready();
        wholesOutOfBounds();
        manyOfASort();
        manyOfAll();
        lacksTheCache();
        leastNumberOfOnePlace();
        leftmostOfTwo();
        afterAFault();
        c.end();
    }

    /** The text, filled up with blanks ahead of its last LINE to so many bytes. */
    private static String filled(String text, String last, int bytes) {
        StringBuilder full = new StringBuilder(text);
        while (full.length() + last.length() < bytes) {
            full.append(' ');
        }
        return full.append(last).toString();
    }

    private static PackedCache withTape(int bytes) {
        PackedCache x = new PackedCache();
        for (int k = 0; k < bytes; k += 20) {
            x.feed(BLANKS, BLANKS, BLANKS, BLANKS, BLANKS);
        }
        return x;
    }

    private static void tapeFull() {
        String text = filled(ONE, ";read 31 7", 1200);
        PackedCache x = new PackedCache();
        x.lines();
        for (int at = 0; at < 1180; at += 20) {
            Check.feed(x, text.substring(at, at + 20));
        }
        c.due("1,180 bytes", x.size(9), 1180);
        Check.feed(x, text.substring(1180));
        c.due("1,200 bytes", x.size(9), 1200);
        for (int turn = 0; turn < 3; turn++) {
            c.due("a feed beyond", x.feed(PARTS, PARTS, PARTS, PARTS, PARTS), NONE);
            c.due("none comes", x.size(9), 1200);
            c.due("it is refused by no number", x.trouble(), 1);
        }
        c.refused("cache(1201) of 1,200", x, x.cache(1201), 2);
        c.due("1,200 stay", x.size(9), 1200);
        c.passed("cache(1200), the last byte's, too", x, x.cache(1200), 1);
        c.due("empty", x.size(9), 0);
        c.due("feed behind the full one", x.feed(PARTS, PARTS, PARTS, PARTS, PARTS), 20);
        x = new PackedCache();
        Check.feed(x, text);
        c.refused("cache(1199), all but its last byte", x, x.cache(1199), 4);
        c.due("cut at the end", x.fault(), 1);
        c.due("cut at the end: where", x.where(), 1199);
    }

    private static void tapeBytes() {
        for (int spot = 0; spot < 20; spot++) {
            int[] fed = {BLANKS, BLANKS, BLANKS, BLANKS, BLANKS};
            int shift = 24 - spot % 4 * 8;
            fed[spot / 4] = BLANKS & ~(255 << shift) | 200 << shift;
            PackedCache x = withTape(40);
            c.due("the third twenty", x.feed(fed[0], fed[1], fed[2], fed[3], fed[4]), 60);
            x.cache(60);
            c.due("byte " + spot + " of a feed", x.where(), 40 + spot);
        }
    }

    private static void cacheTooSmallOrLarge() {
        for (int bytes : new int[] {0, 20, 1180, 1200}) {
            for (int n : new int[] {-1, MIN, bytes + 1, bytes + 20, 1201, MAX}) {
                PackedCache x = withTape(bytes);
                String what = "cache(" + n + ") of " + bytes;
                c.refused(what, x, x.cache(n), 2);
                c.due(what + " where", x.where(), NONE);
                c.due(what + " fault", x.fault(), 0);
                c.due(what + " tape", x.size(9), bytes);
                c.refused(what + " and no CACHE", x, x.lines(), 1);
            }
            PackedCache x = withTape(bytes);
            c.refused("no bytes of " + bytes, x, x.cache(0), 4);
            c.due("no bytes' where", x.where(), 0);
            c.due("no bytes' fault", x.fault(), 1);
            c.due("no bytes' tape", x.size(9), 0);
            x = withTape(bytes);
            c.refused("all of " + bytes, x, x.cache(bytes), 4);
            c.due("all blanks' where", x.where(), bytes);
            c.due("all blanks' tape", x.size(9), 0);
        }
    }

    private static void cacheOfPart() {
        PackedCache x = new PackedCache();
        Check.feed(x, ONE + ";read 0 0;read 1 1;x");
        c.passed("the first 26 bytes", x, x.cache(26), 0);
        c.due("the rest is gone", x.size(9), 0);
        Check.feed(x, ONE + ";read 0 12");
        c.passed("a WHOLE is cut with the text", x, x.cache(35), 1);
        Check.feed(x, ONE + ";read 0 0;reader");
        c.refused("a WORD is cut with the text", x, x.cache(40), 4);
        c.due("by the end", x.where(), 40);
    }

    // FAULT 1
    private static void formAtTheEnd() {
        for (String line : LINES) {
            cutAfterEachToken(ONE + ";", line);
            cutAfterEachToken(ONE + ";read 0 0;", line);
        }
        cutAfterEachToken("", ONE);
        cutAfterEachToken(ONE + ";read 0 0;", "saw 0 hit");
        c.fault(ONE + ";", 1, 27);
        c.fault(ONE + "; ", 1, 28);
        c.fault("", 1, 0);
        c.fault(" ", 1, 1);
    }

    private static void cutAfterEachToken(String ahead, String line) {
        c.due("whole: " + ahead + line, Check.tell(new PackedCache(), ahead + line) >= 0, true);
        for (int at = 0; at < line.length(); at++) {
            if (at == 0 || line.charAt(at) == ' ') {
                c.fault(ahead + line.substring(0, at), 1, ahead.length() + at);
                c.fault(ahead + line.substring(0, at) + "  ", 1, ahead.length() + at + 2);
            }
        }
    }

    private static void formAtEachToken() {
        for (String line : LINES) {
            changeEachToken(ONE + ";", line);
        }
        changeEachToken("", ONE);
        changeEachToken(ONE + ";read 0 0;", "saw 0 hit");
    }

    private static void changeEachToken(String ahead, String line) {
        String[] tokens = line.split(" ");
        int at = ahead.length();
        for (String token : tokens) {
            String before = ahead + line.substring(0, at - ahead.length());
            boolean whole = Character.isDigit(token.charAt(0));
            c.fault(before + (whole ? "lately" : "1"), 1, at);
            c.fault(before + (whole ? "a" : token + "s"), 1, at);
            c.fault(before + (whole ? "000000" : token.substring(0, token.length() - 1)), 1, at);
            c.fault(before + ";" + token, 1, at);
            at += token.length() + 1;
        }
        c.fault(ahead + line + " 0", 1, at);
        c.fault(ahead + line + " line", 1, at);
        c.fault(ahead + line + ";;", 1, at);
        c.fault(ahead + line + " ; ; ", 1, at + 2);
    }

    private static void formAtEachByte() {
        for (int sign = 0; sign < 256; sign++) {
            boolean begins = sign == ' ' || sign == ';' || sign >= '0' && sign <= '9' || sign >= 'a' && sign <= 'z';
            if (!begins) {
                c.fault((char) sign + ONE, 1, 0);
                c.fault("cache sets 1 ways 1 " + (char) sign, 1, 20);
                c.fault(ONE + (char) sign, 1, 26);
                c.fault(ONE + ";read 0 " + (char) sign + "0", 1, 34);
                c.fault(ONE + ";read 31 " + (char) sign, 1, 35);
                c.fault(ONE + ";read " + (char) sign, 1, 32);
                c.fault(ONE + ";unsure 1 1 5;unsure 1 " + (char) sign, 1, 49);
                c.fault(ONE + ";" + (char) sign, 1, 27);
                c.fault(ONE + ";read 0 0;saw 0 " + (char) sign, 1, 42);
            }
        }
    }

    private static void formOfLongRuns() {
        c.fault("abcdefgh", 1, 0);
        c.fault("abcdefghi", 1, 0);
        c.fault("cachecache sets 1", 1, 0);
        c.due("five digits", Check.tell(new PackedCache(), ONE + ";write 00031 00007 00009"), 1);
        c.fault(ONE + ";write 000031 7 9", 1, 33);
        c.fault(ONE + ";write 31 000007 9", 1, 36);
        c.fault(ONE + ";write 31 7 000009", 1, 38);
        c.fault("cache sets 00005 ways 1", 4, 11);
        c.fault(ONE + " abcdefghi", 1, 27);
        c.fault(ONE + " abcdefghi read 0 0", 1, 27);
        c.fault(ONE + ";read 0 0 123456", 1, 36);
        c.fault(ONE + ";read 0 0 123456;read 0 0", 1, 36);
        c.fault(ONE + ";123456", 1, 27);
        c.fault(ONE + ";abcdefghi 5", 1, 27);
        c.fault("cache sets 000005 ways 1", 1, 11);
    }

    // FAULT 2
    private static void stepsUntold() {
        c.fault(ONE + ";saw 0 hit", 2, 31);
        c.fault(ONE + ";saw 0 hit;read 0 0", 2, 31);
        c.due("the only STEP", Check.tell(new PackedCache(), ONE + ";read 0 0;saw 0 hit"), 1);
        c.fault(ONE + ";read 0 0;saw 1 hit", 2, 40);
        c.fault(ONE + ";line 0 0 0 0 0 0 0 0 0;unsure 0 0 0;saw 0 hit", 2, 67);
        String steps = steps(16);
        c.due("the last STEP", Check.tell(new PackedCache(), steps + ";saw 15 hit"), 16);
        c.fault(steps + ";saw 16 hit", 2, steps.length() + 5);
        c.fault(steps + ";saw 99999 hit", 2, steps.length() + 5);
    }

    // FAULT 3
    private static void toldAlready() {
        for (int l : new int[] {0, 31}) {
            String first = ONE + ";line " + l + " 1 1 1 1 1 1 1 1;line ";
            c.fault(first + l + " 1 1 1 1 1 1 1 1", 3, first.length());
            c.due("the line beside it", Check.tell(new PackedCache(), first + (l + 1) % 32 + " 1 1 1 1 1 1 1 1"), 0);
        }
        for (int k : new int[] {0, 15}) {
            String first = steps(16) + ";saw " + k + " hit;saw ";
            c.fault(first + k + " miss", 3, first.length());
            c.due("the STEP beside it", Check.tell(new PackedCache(), first + (k + 1) % 16 + " miss"), 16);
        }
        for (String place : new String[] {"0 0", "0 7", "31 0", "31 7"}) {
            String first = ONE + ";unsure " + place + " 5;unsure " + place;
            c.fault(first + " 6", 3, first.length() - 1);
            c.fault(first, 3, first.length() - 1);
        }
        c.due("the same place of others, other places of the same",
            Check.tell(new PackedCache(), ONE + ";unsure 0 7 5;unsure 1 7 5;unsure 0 6 5;unsure 1 0 5"), 0);
        c.due("unsure and a line told", Check.tell(new PackedCache(), ONE + ";unsure 0 0 5;line 0 0 0 0 0 0 0 0 0"), 0);
        c.fault(ONE + ";" + ONE, 3, 27);
        c.fault(ONE + ";  cache", 3, 29);
        c.fault(ONE + ";read 0 0;cache sets 9", 3, 36);
    }

    // FAULT 4
    private static void wholesOutOfBounds() {
        bounds("cache sets ", " ways 1 lately", 1, 4);
        bounds("cache sets 1 ways ", " weighed", 1, 4);
        bounds(ONE + ";line ", " 0 0 0 0 0 0 0 0", 0, 31);
        for (int i = 0; i < 8; i++) {
            bounds(ONE + ";line 0" + " 5".repeat(i) + " ", " 5".repeat(7 - i), 0, 65535);
        }
        bounds(ONE + ";read ", " 0", 0, 31);
        bounds(ONE + ";read 0 ", "", 0, 7);
        bounds(ONE + ";write ", " 0 0", 0, 31);
        bounds(ONE + ";write 0 ", " 0", 0, 7);
        bounds(ONE + ";write 0 0 ", "", 0, 65535);
        bounds(ONE + ";unsure ", " 0 0", 0, 31);
        bounds(ONE + ";unsure 0 ", " 0", 0, 7);
        bounds(ONE + ";unsure 0 0 ", "", 0, 65535);
    }

    private static void bounds(String ahead, String behind, int low, int high) {
        c.due(ahead + low + behind, Check.tell(new PackedCache(), ahead + low + behind) >= 0, true);
        c.due(ahead + high + behind, Check.tell(new PackedCache(), ahead + high + behind) >= 0, true);
        c.fault(ahead + (high + 1) + behind, 4, ahead.length());
        c.fault(ahead + "99999" + behind, 4, ahead.length());
        if (low > 0) {
            c.fault(ahead + (low - 1) + behind, 4, ahead.length());
        }
        c.fault(ahead + "-1" + behind, 1, ahead.length());
    }

    private static String steps(int n) {
        StringBuilder text = new StringBuilder(ONE);
        for (int k = 0; k < n; k++) {
            text.append(k % 2 == 0 ? ";read 0 0" : ";write 0 0 0");
        }
        return text.toString();
    }

    private static String lines(int n) {
        StringBuilder text = new StringBuilder(ONE);
        for (int k = 0; k < n; k++) {
            text.append(";line ").append(31 - k).append(" 0 0 0 0 0 0 0 0");
        }
        return text.toString();
    }

    private static String unsure(int n) {
        StringBuilder text = new StringBuilder();
        for (int k = 0; k < n; k++) {
            text.append(";unsure ").append(k).append(" 7 1");
        }
        return text.toString();
    }

    private static String seen(int n) {
        StringBuilder text = new StringBuilder();
        for (int k = 0; k < n; k++) {
            text.append(";saw ").append(15 - k).append(" miss");
        }
        return text.toString();
    }

    // FAULT 5
    private static void manyOfASort() {
        roomFor(lines(15), ";line 0 1 1 1 1 1 1 1 1", ";line 1 1 1 1 1 1 1 1 1", 3, 16);
        roomFor(steps(15), ";read 31 7", ";read 31 7", 4, 16);
        roomFor(steps(15), ";write 31 7 0", ";write 31 7 0", 4, 16);
        roomFor(ONE + unsure(3), ";unsure 31 7 0", ";unsure 31 6 0", 5, 4);
        roomFor(steps(16) + seen(5), ";saw 0 hit", ";saw 1 hit", 6, 6);
    }

    /** The last LINE of a sort is told, one more is a FAULT at its first WORD, whatever is behind that. */
    private static void roomFor(String ahead, String last, String more, int what, int room) {
        PackedCache x = new PackedCache();
        c.due("all but the last " + last, Check.tell(x, ahead) >= 0, true);
        c.due("all but the last", x.size(what), room - 1);
        c.due("the last " + last, Check.tell(x, ahead + last) >= 0, true);
        c.due("the last", x.size(what), room);
        int place = ahead.length() + last.length() + 1;
        String word = more.substring(1, more.indexOf(' '));
        c.fault(ahead + last + more, 5, place);
        c.fault(ahead + last + last, 5, place);
        c.fault(ahead + last + ";" + word, 5, place);
        c.fault(ahead + last + ";   " + word + " 99999", 5, place + 3);
        c.fault(ahead + last + ";" + word + "x", 1, place);
    }

    private static void manyOfAll() {
        String all = lines(16) + steps(16).substring(ONE.length()) + unsure(4) + seen(6);
        PackedCache x = Check.of(all);
        c.due("lines", x.size(3), 16);
        c.due("STEPS", x.size(4), 16);
        c.due("unsure", x.size(5), 4);
        c.due("seen", x.size(6), 6);
        for (String sort : new String[] {"line", "read", "write", "unsure", "saw"}) {
            c.fault(all + ";" + sort, 5, all.length() + 1);
        }
        c.fault(all + ";cache", 3, all.length() + 1);
        c.fault(all + ";sets", 1, all.length() + 1);
    }

    // FAULT 6
    private static void lacksTheCache() {
        for (String line : new String[] {"line 0 0 0 0 0 0 0 0 0", "read 0 0", "write 0 0 0", "unsure 0 0 0", "saw 0 hit"}) {
            c.fault(line, 6, 0);
            c.fault(line + ";" + ONE, 6, 0);
            c.fault("   " + line + " x", 6, 3);
            c.fault(line.substring(0, line.indexOf(' ')), 6, 0);
        }
        c.fault("lately", 1, 0);
        c.fault(";" + ONE, 1, 0);
    }

    private static void leastNumberOfOnePlace() {
        c.fault("", 1, 0);
        c.fault(ONE + ";saw 99999", 2, 31);
        c.fault(ONE + ";saw 65536", 2, 31);
        c.fault(ONE + ";saw 100000", 1, 31);
        c.fault(ONE + ";read 100000", 1, 32);
        c.fault("cache sets 100000", 1, 11);
        c.fault(ONE + ";unsure 0 0 5;unsure 0 000000", 1, 49);
        c.fault(ONE + ";line 0 0 0 0 0 0 0 0 0;line 000000", 1, 55);
    }

    private static void leftmostOfTwo() {
        c.fault("cache sets 0 ways 0 never", 4, 11);
        c.fault("cache sets A ways 0 never", 1, 11);
        c.fault("cache sets 1 ways 1 never;line", 1, 20);
        c.fault(ONE + ";read 32 A", 4, 32);
        c.fault(ONE + ";read A 32", 1, 32);
        c.fault(ONE + ";saw 0 A", 2, 31);
        c.fault(ONE + ";cache A", 3, 27);
        c.fault(ONE + ";unsure 0 0 1;unsure 0 0 99999", 3, 49);
        c.fault(ONE + ";unsure 0 0 1;unsure 32 0", 4, 47);
        c.fault("read A", 6, 0);
        c.fault("A read", 1, 0);
    }

    /** THE TAPE is empty, the CACHE is as it was, and the next text is read from its own beginning. */
    private static void afterAFault() {
        PackedCache x = Check.of("cache sets 3 ways 2 weighed;read 1 1;unsure 1 1 1;saw 0 miss;line 4 9 9 9 9 9 9 9 9");
        x.write(4, 0, 8);
        x.image();
        String[] faulty = {"", "cache sets 1 ways 1 lately;saw 0", "cache sets 1 ways 1 lately;cache", "cache sets 5",
            "line 1", "cache sets 4 ways 4 lately;line 4 7 7 7 7 7 7 7 7;read 0 0;read 0 0;unsure 2 2 2;saw 1 hit;"};
        int[] numbers = {1, 2, 3, 4, 6, 1};
        int[] due = {3, 2, 1, 1, 1, 1, 1, 1, 1, 0};
        for (int k = 0; k < faulty.length; k++) {
            c.due("a FAULT", Check.tell(x, faulty[k]), NONE);
            c.due("its number", x.fault(), numbers[k]);
            for (int what = 0; what < 10; what++) {
                c.due("size(" + what + ") after: " + faulty[k], x.size(what), due[what]);
            }
            c.due("where after: " + faulty[k], x.where() >= 0, true);
            c.passed("memory", x, x.memory(4, 0), 9);
            c.due("no where by another call", x.where(), NONE);
            c.due("the FAULT stays", x.fault(), numbers[k]);
            c.passed("word", x, x.word(4, 0), 8);
            c.passed("fits", x, x.fits(), 2);
            c.passed("judge", x, x.judge(), -2);
        }
        c.due("undo", x.undo(), true);
        c.passed("a text at last", x, Check.tell(x, ONE), 0);
        c.due("no FAULT", x.fault(), 0);
        c.due("no place", x.where(), NONE);
        c.due("no IMAGES", x.size(8), 0);
    }
}
