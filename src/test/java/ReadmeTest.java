import java.io.IOException;
import java.net.URL;
import java.net.URLClassLoader;
import java.nio.file.Files;
import java.nio.file.Path;
import java.util.regex.Matcher;
import java.util.regex.Pattern;
import javax.tools.JavaCompiler;
import javax.tools.ToolProvider;

/** README.md's calls are compiled and made as they stand there; "// = 3" behind a call tells its answer. */
public final class ReadmeTest {
    private static final Pattern ROWS = Pattern.compile("(?s)```java\n(.*?)```");
    private static final Pattern TOLD = Pattern.compile("(\\S.*\\));\\s+// = (-?\\d+).*");

    public static final class Told {
        private Told() {
        }

        public static void due(String call, long want, long got) {
            Expect.same(call, want, got);
        }
    }

    private static String program(String rows) {
        StringBuilder program = new StringBuilder("public final class ReadmeRun implements Runnable {\n");
        program.append("public void run() {\n");
        for (String row : rows.split("\n")) {
            Matcher told = TOLD.matcher(row);
            program.append(told.matches()
                    ? "ReadmeTest.Told.due(\"" + told.group(1) + "\", " + told.group(2) + "L, " + told.group(1) + ");"
                    : row);
            program.append("\n");
        }
        return program.append("}\n}\n").toString();
    }

    private static void make(String program) throws IOException, ReflectiveOperationException {
        Path place = Files.createDirectories(Path.of("build", "readme"));
        Path file = Files.writeString(place.resolve("ReadmeRun.java"), program);
        JavaCompiler compiler = ToolProvider.getSystemJavaCompiler();
        int code = compiler.run(null, null, null, "-cp", System.getProperty("java.class.path"), "-d",
                place.toString(), file.toString());
        Expect.same("README.md's calls compile", 0, code);
        if (code == 0) {
            try (URLClassLoader loader = new URLClassLoader(new URL[] {place.toUri().toURL()})) {
                ((Runnable) loader.loadClass("ReadmeRun").getDeclaredConstructor().newInstance()).run();
            }
        }
    }

    public static void main(String[] args) throws IOException, ReflectiveOperationException {
        Matcher rows = ROWS.matcher(Files.readString(Path.of("README.md")));
        Expect.same("README.md has calls", 1, rows.find() ? 1 : 0);
        make(program(rows.group(1)));
        Expect.end("ReadmeTest");
    }
}
