import java.io.ByteArrayOutputStream;
import java.io.PrintStream;
import java.lang.reflect.Method;
import java.net.URL;
import java.net.URLClassLoader;
import java.nio.charset.StandardCharsets;
import java.nio.file.Files;
import java.nio.file.Path;
import java.util.regex.Matcher;
import java.util.regex.Pattern;
import javax.tools.JavaCompiler;
import javax.tools.ToolProvider;

/** README.md's example prints what README.md says, and README.md names each call once, with its parameters. */
public final class ReadmeTest {
    private static final Check c = new Check("readme");

    public static void main(String[] args) throws Exception {
        String page = Files.readString(Path.of("README.md"));
        namesCalls(page);
        runsExample(block(page, "java"), block(page, "text"));
        c.end();
    }

    private static void namesCalls(String page) {
        for (Method m : PackedCache.class.getDeclaredMethods()) {
            if (java.lang.reflect.Modifier.isPublic(m.getModifiers())) {
                String between = m.getParameterCount() == 0 ? "" : "\\w+" + ", \\w+".repeat(m.getParameterCount() - 1);
                Matcher row = Pattern.compile("(?m)^\\| `" + m.getName() + "\\(" + between + "\\)` \\| ").matcher(page);
                c.due("rows of " + m.getName(), row.results().count(), 1);
            }
        }
    }

    private static String block(String page, String sort) {
        Matcher m = Pattern.compile("(?s)\n```" + sort + "\n(.*?)```\n").matcher(page);
        return m.find() ? m.group(1) : "";
    }

    private static void runsExample(String program, String due) throws Exception {
        Path folder = Files.createTempDirectory("readme");
        Path source = folder.resolve("Example.java");
        Files.writeString(source, program);
        JavaCompiler javac = ToolProvider.getSystemJavaCompiler();
        String classes = System.getProperty("java.class.path");
        int compiled = javac.run(null, null, null, "-cp", classes, "-d", folder.toString(), source.toString());
        c.due("the example compiles", compiled, 0);
        if (compiled == 0) {
            String got = printed(folder);
            c.due("the example prints something", got.isEmpty(), false);
            c.due("the example printed\n" + got + "and the page says\n" + due, got.equals(due), true);
        }
        try (var all = Files.list(folder)) {
            for (Path file : all.toList()) {
                Files.delete(file);
            }
        }
        Files.delete(folder);
    }

    private static String printed(Path folder) throws Exception {
        PrintStream before = System.out;
        ByteArrayOutputStream bytes = new ByteArrayOutputStream();
        try (URLClassLoader loader = new URLClassLoader(new URL[] {folder.toUri().toURL()})) {
            System.setOut(new PrintStream(bytes, true, StandardCharsets.UTF_8));
            loader.loadClass("Example").getMethod("main", String[].class).invoke(null, (Object) new String[0]);
        } finally {
            System.setOut(before);
        }
        return bytes.toString(StandardCharsets.UTF_8).replace("\r\n", "\n");
    }
}
