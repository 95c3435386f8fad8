import java.io.ByteArrayOutputStream;
import java.io.IOException;
import java.io.PrintStream;
import java.lang.reflect.Field;
import java.net.URL;
import java.net.URLClassLoader;
import java.nio.file.Files;
import java.nio.file.Path;
import java.util.List;
import java.util.regex.Matcher;
import java.util.regex.Pattern;
import java.util.stream.Collectors;
import java.util.stream.Stream;
import javax.tools.ToolProvider;

/** What README.md says: its example as it stands there, its refusals, its list of tests. */
final class ReadmeTests {
    private static final Check CHECK = new Check("ReadmeTests");

    private ReadmeTests() {
    }

    public static void main(String[] args) throws IOException, ReflectiveOperationException {
        String readme = Files.readString(Path.of("README.md"));
        example(block(readme, "java"), block(readme, "text"));
        refusals(readme);
        tests(readme);
        CHECK.close();
    }

    /** The first block of this kind, to the letter. */
    private static String block(String readme, String kind) {
        Matcher m = Pattern.compile("(?s)```" + kind + "\n(.*?)```").matcher(readme);
        boolean found = m.find();
        CHECK.holds("there is a block of " + kind, found);
        return found ? m.group(1) : "";
    }

    private static void example(String code, String printed) throws IOException, ReflectiveOperationException {
        Path folder = Files.createTempDirectory("readme");
        Path source = folder.resolve("Example.java");
        Files.writeString(source, code);
        int exit = ToolProvider.getSystemJavaCompiler().run(null, null, null, "-Xlint:all", "-Werror",
                "-d", folder.toString(), "src/main/java/RasterPainter.java", source.toString());
        CHECK.due("the example compiles", exit, 0);
        if (exit == 0) {
            CHECK.holds("the example prints what is told", printedBy(folder).equals(printed));
        }
        try (Stream<Path> left = Files.list(folder)) {
            for (Path p : left.collect(Collectors.toList())) {
                Files.delete(p);
            }
        }
        Files.delete(folder);
    }

    private static String printedBy(Path folder) throws IOException, ReflectiveOperationException {
        PrintStream out = System.out;
        ByteArrayOutputStream bytes = new ByteArrayOutputStream();
        URL[] urls = {folder.toUri().toURL()};
        try (URLClassLoader loader = new URLClassLoader(urls, ClassLoader.getPlatformClassLoader())) {
            System.setOut(new PrintStream(bytes, true));
            loader.loadClass("Example").getMethod("main", String[].class).invoke(null, (Object) new String[0]);
        } finally {
            System.setOut(out);
        }
        return bytes.toString().replace(System.lineSeparator(), "\n");
    }

    private static void refusals(String readme) throws ReflectiveOperationException {
        Matcher row = Pattern.compile("(?m)^\\| (-\\d+) \\| (`(\\w+)`)? ?\\|").matcher(readme);
        StringBuilder numbers = new StringBuilder();
        while (row.find()) {
            numbers.append(row.group(1)).append(' ');
            if (row.group(3) != null) {
                Field constant = RasterPainter.class.getField(row.group(3));
                CHECK.due(row.group(3), constant.getInt(null), Integer.parseInt(row.group(1)));
            }
        }
        CHECK.holds("refusals: " + numbers, numbers.toString().equals("-2 -3 -4 -11 -12 -13 -14 "));
        CHECK.holds("a stroke's FAULT", readme.contains("| -100 less a place |"));
    }

    private static void tests(String readme) throws IOException {
        try (Stream<Path> files = Files.list(Path.of("src/test/java"))) {
            List<String> names = files.map(f -> f.getFileName().toString()).collect(Collectors.toList());
            for (String name : names) {
                boolean isTest = name.endsWith("Tests.java");
                CHECK.holds(name, !isTest || readme.contains("`" + name.replace(".java", "") + "`"));
            }
        }
    }
}
