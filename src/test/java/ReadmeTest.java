import java.io.ByteArrayOutputStream;
import java.io.IOException;
import java.io.PrintStream;
import java.net.URL;
import java.net.URLClassLoader;
import java.nio.file.Files;
import java.nio.file.Path;
import java.util.ArrayList;
import java.util.Comparator;
import java.util.List;
import java.util.TreeSet;
import java.util.regex.Matcher;
import java.util.regex.Pattern;
import java.util.stream.Stream;
import javax.tools.ToolProvider;

/** README.md, read from the folder of the project: what it says of use and tests is so. */
public final class ReadmeTest {
    private static final Pattern PRINTED = Pattern.compile("println\\(.*\\);\\s+// (.*)");

    public static void main(String[] args) throws IOException, ReflectiveOperationException {
        String page = Files.readString(Path.of("README.md"));
        callsHaveRows(page);
        testsHaveRows(page);
        examplePrintsWhatItSays(page);
        Check.end("ReadmeTest");
    }

    private static void callsHaveRows(String page) throws IOException {
        TreeSet<String> due = new TreeSet<>();
        for (DocFace.Call call : DocFace.calls()) {
            due.add(call.name() + "(" + String.join(", ", call.parameters()) + ") throws "
                    + String.join(", ", call.exceptions()).replace("Exception", ""));
        }
        TreeSet<String> found = new TreeSet<>();
        Matcher row = Pattern.compile("(?m)^\\| `(\\w+\\([\\w, ]*\\))`(?: \\*)? \\|[^|]+\\|([^|]*)\\|$").matcher(page);
        while (row.find()) {
            found.add(row.group(1) + " throws " + row.group(2).trim());
        }
        Check.due("the rows of the calls", found, due);
    }

    private static void testsHaveRows(String page) throws IOException {
        TreeSet<String> due = new TreeSet<>();
        try (Stream<Path> files = Files.list(Path.of("src/test/java"))) {
            files.map(file -> file.getFileName().toString()).filter(name -> name.endsWith("Test.java"))
                    .forEach(name -> due.add(name.replace(".java", "")));
        }
        TreeSet<String> found = new TreeSet<>();
        Matcher row = Pattern.compile("(?m)^\\| `(\\w+Test)` \\|").matcher(page);
        while (row.find()) {
            found.add(row.group(1));
        }
        Check.due("the rows of the tests", found, due);
    }

    private static void examplePrintsWhatItSays(String page)
            throws IOException, ReflectiveOperationException {
        Matcher block = Pattern.compile("(?s)```java\\n(.*?)```").matcher(page);
        Check.due("there is an example", block.find(), true);
        String code = block.group(1);
        List<String> due = new ArrayList<>();
        Matcher line = PRINTED.matcher(code);
        while (line.find()) {
            due.add(line.group(1));
        }
        Check.due("the example says what it prints", due.size() > 10, true);
        Path folder = Files.createTempDirectory("readme");
        try {
            Check.due("what the example prints", compiledAndRun(code, folder), due);
        } finally {
            remove(folder);
        }
    }

    private static List<String> compiledAndRun(String code, Path folder)
            throws IOException, ReflectiveOperationException {
        Path file = Files.writeString(folder.resolve("Example.java"), code);
        int status = ToolProvider.getSystemJavaCompiler().run(null, null, null, "-d", folder.toString(),
                "src/main/java/MatchingGraph.java", file.toString());
        Check.due("the status of compiling the example", status, 0);
        ByteArrayOutputStream bytes = new ByteArrayOutputStream();
        PrintStream before = System.out;
        URL[] places = {folder.toUri().toURL()};
        // Without a parent that has the tests' own classes, so that it runs as the page says.
        try (URLClassLoader loader = new URLClassLoader(places, ClassLoader.getPlatformClassLoader())) {
            System.setOut(new PrintStream(bytes, true));
            loader.loadClass("Example").getMethod("main", String[].class).invoke(null, (Object) new String[0]);
        } finally {
            System.setOut(before);
        }
        return bytes.toString().lines().toList();
    }

    private static void remove(Path folder) throws IOException {
        List<Path> paths;
        try (Stream<Path> found = Files.walk(folder)) {
            paths = found.sorted(Comparator.reverseOrder()).toList();
        }
        for (Path path : paths) {
            Files.delete(path);
        }
    }
}
