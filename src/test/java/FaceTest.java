import java.lang.reflect.Constructor;
import java.lang.reflect.Field;
import java.lang.reflect.Method;
import java.lang.reflect.Modifier;
import java.util.ArrayList;
import java.util.Arrays;
import java.util.List;
import java.util.Set;
import java.util.TreeSet;

/** The public face is the document's, and nothing else can be seen of the class. */
public final class FaceTest {
    private static final String[] FACE = {
        "int feed(int,int,int,int,int)", "int cache(int)", "int fault()", "int where()", "int word(int,int)",
        "int memory(int,int)", "int form(int)", "int bytes(int,int)", "int forms(int)", "int segments(int)",
        "long base(int,int)", "int mask(int,int)", "long difference(int,int,int)", "int linesOf(int)",
        "int set(int,int)", "int tag(int,int)", "int cached(int,int)", "int isCached(int)", "int victim(int)",
        "int makesRoom(int)", "int growsOver(int,int,int)", "long ratio(boolean)", "int lines()", "int runHits()",
        "int runVictims()", "int runBacks()", "int runStep(int)", "int plainHits()", "int plainBacks()",
        "int hitsBy(int)", "int waysFor(int)", "int fits()", "int fitAt(int)", "int could()", "int surely()",
        "int ask()", "int askLeaves()", "int judge()", "int drawnHits(int,int)", "int drawnBacks(int,int)",
        "int read(int,int)", "int write(int,int,int)", "int drop(int)", "int clean()", "boolean undo()",
        "int image()", "boolean back(int)", "int led(int)", "int size(int)", "int trouble()"};

    public static void main(String[] args) {
        Check check = new Check("face");
        Class<?> face = PackedCache.class;
        check.due("public and final", Modifier.isPublic(face.getModifiers()) && Modifier.isFinal(face.getModifiers()), true);
        Set<String> seen = new TreeSet<>();
        Set<String> names = new TreeSet<>();
        for (Method m : face.getDeclaredMethods()) {
            if (!Modifier.isPrivate(m.getModifiers())) {
                seen.add(told(m));
                names.add(m.getName());
            }
        }
        check.due("the methods that can be seen, missing or too many " + differing(seen), seen.equals(new TreeSet<>(Arrays.asList(FACE))), true);
        for (Constructor<?> c : face.getDeclaredConstructors()) {
            check.due("constructor's parameters", c.getParameterCount(), 0);
        }
        for (Field f : face.getDeclaredFields()) {
            boolean shown = !Modifier.isPrivate(f.getModifiers());
            check.due("field " + f.getName() + " can be seen", shown, f.getName().equals("NONE"));
        }
        privateNames(check, face, names);
        for (Class<?> inside : face.getDeclaredClasses()) {
            check.due(inside + " is static", Modifier.isStatic(inside.getModifiers()), true);
            check.due(inside + " has few fields", ownFields(inside) <= 20, true);
            privateNames(check, inside, names);
        }
        check.due("NONE", PackedCache.NONE, -1);
        check.end();
    }

    private static void privateNames(Check check, Class<?> where, Set<String> names) {
        for (Method m : where.getDeclaredMethods()) {
            if (where != PackedCache.class || Modifier.isPrivate(m.getModifiers())) {
                check.due(where + "." + m.getName() + " bears a public name", names.contains(m.getName()), false);
            }
            check.due(m + " has few parameters", m.getParameterCount() <= 7, true);
        }
    }

    private static int ownFields(Class<?> inside) {
        int count = 0;
        for (Field f : inside.getDeclaredFields()) {
            if (!Modifier.isStatic(f.getModifiers())) {
                count++;
            }
        }
        return count;
    }

    private static String told(Method m) {
        List<String> types = new ArrayList<>();
        for (Class<?> t : m.getParameterTypes()) {
            types.add(t.getName());
        }
        return m.getReturnType().getName() + " " + m.getName() + "(" + String.join(",", types) + ")";
    }

    private static Set<String> differing(Set<String> seen) {
        Set<String> all = new TreeSet<>(seen);
        all.addAll(Arrays.asList(FACE));
        Set<String> both = new TreeSet<>(seen);
        both.retainAll(Arrays.asList(FACE));
        all.removeAll(both);
        return all;
    }
}
