import java.lang.reflect.InvocationTargetException;
import java.lang.reflect.Method;
import java.util.ArrayList;
import java.util.Arrays;
import java.util.Comparator;
import java.util.List;
import java.util.Random;

/** Many runs of calls by chance (always the same ones), each answer held against Model's. */
public final class ModelTest {
    private static final int RUNS = 300;
    private static final String[] SPOILERS = {"cache", "line 0", ";", "hit", "99999", "100000", "A", "  ", "8", "32", "65536",
        "saw 3 miss", "unsure 1 1 1", "read 1 1", "abcdefghi", "write 0 0 0", "", "\u00e9", "saw 0 hit", "lately", "sets"};

    private final Random random;
    private final PackedCache x = new PackedCache();
    private final Model model = new Model();
    private final List<String> log = new ArrayList<>();

    private ModelTest(long seed) {
        random = new Random(seed);
    }

    public static void main(String[] args) throws Exception {
        List<Method> calls = new ArrayList<>();
        for (Method m : PackedCache.class.getMethods()) {
            if (m.getDeclaringClass() == PackedCache.class) {
                calls.add(m);
            }
        }
        calls.sort(Comparator.comparing(Method::getName));
        int wrong = 0;
        for (int run = 0; run < RUNS && wrong < 5; run++) {
            ModelTest test = new ModelTest(run);
            if (!test.holds(calls)) {
                wrong++;
                System.out.println("model: run " + run);
                test.log.forEach(System.out::println);
            }
        }
        System.out.println("model: " + RUNS + " runs, " + wrong + " wrong");
        if (wrong != 0) {
            System.exit(1);
        }
    }

    private boolean holds(List<Method> calls) throws Exception {
        int bias = random.nextInt(4);
        for (int k = 0; k < 440; k++) {
            if (k % 150 == 2 || random.nextInt(200) == 0) {
                if (!tell()) {
                    return false;
                }
            }
            Method m = calls.get(random.nextInt(calls.size()));
            if (random.nextInt(4) < bias) {
                String name = random.nextInt(10) < 6 ? "write" : "read";
                m = calls.stream().filter(c -> c.getName().equals(name)).findFirst().get();
            }
            if (!m.getName().equals("feed") && !m.getName().equals("cache") && !same(m, args(m))) {
                return false;
            }
        }
        return true;
    }

    private boolean tell() throws Exception {
        String text = text();
        log.add("text: " + text);
        StringBuilder full = new StringBuilder(text);
        while (full.length() % 20 != 0) {
            full.append(' ');
        }
        Method feed = PackedCache.class.getMethod("feed", int.class, int.class, int.class, int.class, int.class);
        for (int at = 0; at < full.length(); at += 20) {
            Object[] fours = new Object[5];
            for (int k = 0; k < 5; k++) {
                int v = 0;
                for (int b = 0; b < 4; b++) {
                    v = v << 8 | full.charAt(at + 4 * k + b);
                }
                fours[k] = v;
            }
            if (!same(feed, fours)) {
                return false;
            }
        }
        Method cache = PackedCache.class.getMethod("cache", int.class);
        if (random.nextInt(20) == 0 && !same(cache, random.nextBoolean() ? -1 : 1201)) {
            return false;
        }
        return same(cache, Math.min(1200, text.length())) && same(PackedCache.class.getMethod("fault"))
            && same(PackedCache.class.getMethod("where"));
    }

    private boolean same(Method m, Object... args) throws Exception {
        Object mine = answer(m, x, args);
        Object due = answer(Model.class.getMethod(m.getName(), m.getParameterTypes()), model, args);
        log.add(m.getName() + Arrays.toString(args) + " answered " + mine);
        boolean troubled = x.trouble() == model.trouble();
        if (!mine.equals(due) || !troubled) {
            log.add("due is " + due + ", trouble() " + x.trouble() + ", due is " + model.trouble());
            return false;
        }
        return true;
    }

    private static Object answer(Method m, Object on, Object... args) throws Exception {
        try {
            return m.invoke(on, args);
        } catch (InvocationTargetException e) {
            return e.getCause().getClass().getName();
        }
    }

    private Object[] args(Method m) {
        Object[] args = new Object[m.getParameterCount()];
        for (int k = 0; k < args.length; k++) {
            args[k] = m.getParameterTypes()[k] == boolean.class ? (Object) random.nextBoolean() : (Object) arg(m.getName(), k);
        }
        return args;
    }

    private int arg(String name, int k) {
        switch (random.nextInt(60)) {
            case 0:
                return random.nextInt();
            case 1:
                return -1;
            case 2:
                return 32;
            case 3:
                return 65536;
            case 4:
                return Integer.MAX_VALUE;
            case 5:
                return Integer.MIN_VALUE;
            default:
        }
        String first = "set tag victim".contains(name) ? "s" : "bytes mask base difference linesOf".contains(name) && k == (name.equals("linesOf") ? 0 : 1) ? "f" : "l";
        if (name.startsWith("drawn")) {
            return k == 0 ? random.nextInt(65537) : random.nextInt(204);
        }
        if ((name.equals("write") || name.equals("growsOver")) && k == 2) {
            return word(random.nextInt(7));
        }
        if (k == 0 && "back image hitsBy waysFor size fitAt runStep led".contains(name)) {
            return random.nextInt(random.nextBoolean() ? 5 : 18) - (random.nextInt(9) == 0 ? 1 : 0);
        }
        if (k == 0 && first.equals("s")) {
            return random.nextInt(5);
        }
        if (first.equals("f")) {
            return random.nextInt(9);
        }
        return k == 0 ? random.nextInt(random.nextBoolean() ? 10 : 33) : random.nextInt(9);
    }

    private int word(int sort) {
        int[] edges = {0, 127, 128, 255, 256, 32767, 32768, 65535, 65408, 65407, 1, 1000, 33000};
        switch (sort) {
            case 0:
                return 0;
            case 1:
                return random.nextInt(300);
            case 2:
                return edges[random.nextInt(edges.length)];
            case 3:
                return 1000 + random.nextInt(140);
            case 4:
                return random.nextInt(65536);
            case 5:
                return 7;
            default:
                return 65535 - random.nextInt(140);
        }
    }

    private String line(int l) {
        StringBuilder text = new StringBuilder("line " + l);
        int way = random.nextInt(5);
        int sort = random.nextInt(7);
        int same = word(sort);
        for (int i = 0; i < 8; i++) {
            int high = random.nextInt(5) == 0 ? 0 : same;
            text.append(' ').append(switch (way) {
                case 0 -> same;
                case 1 -> i % 2 == 0 ? high : word(sort);
                case 2 -> i % 4 < 3 ? high : word(sort);
                case 3 -> i % 4 == 0 ? random.nextInt(2) * 65535 : i % 4 < 3 ? random.nextInt(2) * 65535 : word(2);
                default -> word(sort);
            });
        }
        return text.toString();
    }

    private String text() {
        List<String> parts = new ArrayList<>();
        boolean tight = random.nextInt(3) == 0;
        int reach = tight ? 3 : random.nextBoolean() ? 6 : 32;
        for (int k = random.nextInt(17); k > 0; k--) {
            parts.add(line(random.nextInt(5) == 0 ? random.nextInt(reach) : k));
        }
        List<Integer> told = new ArrayList<>();
        parts.removeIf(p -> {
            int l = Integer.parseInt(p.split(" ")[1]);
            boolean twice = told.contains(l) && random.nextInt(40) != 0;
            told.add(l);
            return twice;
        });
        int steps = random.nextInt(18) - (random.nextInt(8) == 0 ? 0 : 1);
        for (int k = 0; k < steps; k++) {
            int l = random.nextInt(reach);
            parts.add(random.nextBoolean() ? "read " + l + " " + random.nextInt(8)
                : "write " + l + " " + random.nextInt(8) + " " + word(random.nextInt(7)));
        }
        for (int k = random.nextInt(5) + random.nextInt(20) / 19; k > 0; k--) {
            parts.add(random.nextInt(parts.size() + 1), "unsure " + random.nextInt(reach) + " " + random.nextInt(8) + " " + word(random.nextInt(7)));
        }
        for (int k = random.nextInt(4) + random.nextInt(10) / 9 * 4; k > 0 && steps > 0; k--) {
            parts.add("saw " + random.nextInt(steps) + (random.nextInt(3) == 0 ? " hit" : " miss"));
        }
        // Few lines in little room: there the unsure WORDS part hits from misses.
        String room = tight ? "cache sets 1 ways 1" : "cache sets " + (1 + random.nextInt(4)) + " ways " + (1 + random.nextInt(4));
        String cache = room + (random.nextBoolean() ? " lately" : " weighed");
        parts.add(random.nextInt(50) == 0 ? random.nextInt(parts.size() + 1) : 0, cache);
        StringBuilder text = new StringBuilder(String.join(random.nextBoolean() ? ";" : " ; ", parts));
        if (random.nextInt(4) == 0) {
            int at = random.nextInt(text.length() + 1);
            text.replace(at, Math.min(text.length(), at + random.nextInt(3)), SPOILERS[random.nextInt(SPOILERS.length)]);
        }
        return text.length() > 1200 ? text.substring(0, 1200) : text.toString();
    }
}
