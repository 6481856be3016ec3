import java.io.ByteArrayOutputStream;
import java.io.PrintStream;
import java.net.URL;
import java.net.URLClassLoader;
import java.nio.charset.StandardCharsets;
import java.nio.file.Files;
import java.nio.file.Path;
import javax.tools.ToolProvider;

/** Compiles and runs the program in README.md: it prints what README.md says, and every call of the face is named there. */
public final class ReadmeExample {
    private static int wrong = 0;

    private static void say(String what) {
        wrong++;
        System.out.println(what);
    }

    public static void main(String[] args) throws Exception {
        Path source = Path.of(args[0]).toAbsolutePath();
        Path root = source.getParent().getParent().getParent().getParent();
        String readme = Files.readString(root.resolve("README.md"), StandardCharsets.UTF_8);
        String due = block(readme, "text");
        String printed = run(source, root.resolve("build/readme"), block(readme, "java"));
        if (!printed.equals(due)) say("README.md's program prints\n" + printed + "and README.md says\n" + due);
        for (var method : CrashTies.class.getDeclaredMethods()) {
            boolean ofTheFace = java.lang.reflect.Modifier.isPublic(method.getModifiers());
            if (ofTheFace && !readme.contains("`" + method.getName() + "`")) say("README.md doesn't name " + method.getName());
        }
        if (wrong != 0) System.exit(1);
    }

    /** What stands between the first fence of a language and the next fence. */
    private static String block(String readme, String language) {
        String fence = "```" + language + "\n";
        int start = readme.indexOf(fence);
        int end = start < 0 ? -1 : readme.indexOf("```", start + fence.length());
        if (end < 0) {
            say("README.md has no block of " + language);
            return "";
        }
        return readme.substring(start + fence.length(), end);
    }

    private static String run(Path source, Path out, String program) throws Exception {
        Files.createDirectories(out);
        Path example = out.resolve("Example.java");
        Files.writeString(example, program);
        int failed = ToolProvider.getSystemJavaCompiler().run(null, null, null, "-d", out.toString(), source.toString(), example.toString());
        if (failed != 0) {
            say("README.md's program doesn't compile");
            return "";
        }
        ByteArrayOutputStream printed = new ByteArrayOutputStream();
        PrintStream before = System.out;
        // the class is loaded from out alone, not from where this test's own copy is
        try (URLClassLoader loader = new URLClassLoader(new URL[] {out.toUri().toURL()}, ClassLoader.getPlatformClassLoader())) {
            System.setOut(new PrintStream(printed, true, StandardCharsets.UTF_8));
            loader.loadClass("Example").getMethod("main", String[].class).invoke(null, (Object) new String[0]);
        } finally {
            System.setOut(before);
        }
        return printed.toString(StandardCharsets.UTF_8).replace("\r\n", "\n");
    }
}
