/** What the tests share: texts put on THE TAPE, answers held against those that are due. */
final class Check {
    private final String name;
    private int wrong;
    private int looked;

    Check(String name) {
        this.name = name;
    }

    /** The text comes behind THE TAPE, filled up with blanks to twenties. */
    static void feed(PackedCache x, String text) {
        StringBuilder full = new StringBuilder(text);
        while (full.length() % 20 != 0) {
            full.append(' ');
        }
        for (int at = 0; at < full.length(); at += 20) {
            x.feed(four(full, at), four(full, at + 4), four(full, at + 8), four(full, at + 12), four(full, at + 16));
        }
    }

    private static int four(CharSequence text, int at) {
        return text.charAt(at) << 24 | text.charAt(at + 1) << 16 | text.charAt(at + 2) << 8 | text.charAt(at + 3);
    }

    static int tell(PackedCache x, String text) {
        feed(x, text);
        return x.cache(text.length());
    }

    static PackedCache of(String text) {
        PackedCache x = new PackedCache();
        if (tell(x, text) < 0) {
            throw new IllegalStateException("fault " + x.fault() + " at " + x.where() + " of: " + text);
        }
        return x;
    }

    void due(String what, long got, long want) {
        looked++;
        if (got != want) {
            wrong++;
            System.out.println(name + ": " + what + " answered " + got + ", due is " + want);
        }
    }

    void due(String what, boolean got, boolean want) {
        due(what, got ? 1 : 0, want ? 1 : 0);
    }

    /** The latest call was answered, not refused. */
    void passed(String what, PackedCache x, long got, long want) {
        due(what, got, want);
        due("trouble() after " + what, x.trouble(), 0);
    }

    void refused(String what, PackedCache x, long got, int trouble) {
        due(what, got, PackedCache.NONE);
        due("trouble() after " + what, x.trouble(), trouble);
    }

    void fault(String text, int number, int place) {
        PackedCache x = new PackedCache();
        due("cache of: " + text, tell(x, text), PackedCache.NONE);
        due("trouble() of: " + text, x.trouble(), 4);
        due("fault() of: " + text, x.fault(), number);
        due("where() of: " + text, x.where(), place);
    }

    void end() {
        System.out.println(name + ": " + looked + " answers looked at, " + wrong + " wrong");
        if (wrong != 0 || looked == 0) {
            System.exit(1);
        }
    }
}
