import java.io.File;
import java.net.URL;
import java.net.URLClassLoader;
import java.nio.file.Files;
import java.nio.file.Path;
import java.util.regex.Matcher;
import java.util.regex.Pattern;
import java.util.stream.Stream;
import javax.tools.ToolProvider;

/** The example in README.md: it compiles, and each call answers the number that ends its comment. */
public final class ReadmeTest {
    private static final Check CHECK = new Check("ReadmeTest");
    private static final Pattern CALL = Pattern.compile("(?m)^( *)(desk\\.\\w+\\(.*\\)); *// (.*) (-?\\d+)$");

    public static void main(String[] args) throws Exception {
        Matcher block = Pattern.compile("(?s)```java\n(.*?)```").matcher(Files.readString(Path.of("README.md")));
        CHECK.isTrue("README.md has an example", block.find());
        Matcher calls = CALL.matcher(block.group(1));
        CHECK.isTrue("the example tells some answers", calls.results().count() >= 8);
        Path out = Files.createTempDirectory("readme");
        try {
            run(out, calls.reset().replaceAll("$1Example.due(\"$2\", $2, $4);"));
        } finally {
            remove(out);
        }
        CHECK.finish();
    }

    /** Each call that tells an answer is one of Example.due, which fails if it is another one. */
    private static void run(Path out, String example) throws Exception {
        String checked = example.substring(0, example.lastIndexOf('}'))
                + "    static void due(String call, int got, int want) {\n"
                + "        if (got != want) { throw new IllegalStateException(call + \" answered \" + got); }\n"
                + "    }\n}\n";
        Path file = out.resolve("Example.java");
        Files.writeString(file, checked);
        int failed = ToolProvider.getSystemJavaCompiler().run(null, null, null,
                "--release", "17", "-d", out.toString(), "src/main/java/QuaternionDesk.java", file.toString());
        CHECK.due("compiling the example", failed, 0);
        if (failed != 0) {
            return;
        }
        URL[] places = {out.toUri().toURL()};
        try (URLClassLoader loader = new URLClassLoader(places, null)) {
            loader.loadClass("Example").getMethod("main", String[].class).invoke(null, (Object) new String[0]);
        } catch (java.lang.reflect.InvocationTargetException thrown) {
            CHECK.isTrue("the example: " + thrown.getCause().getMessage(), false);
        }
    }

    private static void remove(Path folder) throws Exception {
        try (Stream<Path> files = Files.walk(folder)) {
            files.sorted((p, q) -> q.compareTo(p)).map(Path::toFile).forEach(File::delete);
        }
    }
}
