import java.io.IOException;
import java.net.URL;
import java.net.URLClassLoader;
import java.nio.file.Files;
import java.nio.file.Path;
import java.util.ArrayList;
import java.util.HashSet;
import java.util.List;
import java.util.Set;
import java.util.regex.Matcher;
import java.util.regex.Pattern;
import javax.tools.ToolProvider;

/** Who reads README.md may do as it says: its Java is compiled and run, and answers what is told behind each call. */
public final class ReadmeTest {
    private static final Pattern BLOCK = Pattern.compile("(?s)```java\n(.*?)```");
    private static final Pattern TOLD = Pattern.compile("(hotel\\.(\\w+)\\(.*\\)); +// (-?\\d+|true|false)\\b.*");

    private final StringBuilder helpers = new StringBuilder();
    private final StringBuilder steps = new StringBuilder();
    private final Set<String> shown = new HashSet<>();

    public static void main(String[] args) throws IOException, ReflectiveOperationException {
        ReadmeTest test = new ReadmeTest();
        test.read(Files.readString(Path.of("README.md")));
        Path place = Files.createTempDirectory("readme");
        test.run(place);
        try (var files = Files.list(place)) {
            for (Path file : files.toList()) {
                Files.delete(file);
            }
        }
        Files.delete(place);
        test.everyCallIsShown();
        Due.end("ReadmeTest");
    }

    private void read(String page) {
        Matcher blocks = BLOCK.matcher(page);
        while (blocks.find()) {
            if (blocks.group(1).startsWith("static")) {
                helpers.append(blocks.group(1));
            } else {
                blocks.group(1).lines().forEach(this::addStep);
            }
        }
    }

    private void addStep(String line) {
        Matcher told = TOLD.matcher(line);
        if (!told.matches()) {
            Due.is("README has no answer behind: " + line, line.contains("hotel."), false);
            steps.append(line).append('\n');
            return;
        }
        shown.add(told.group(2));
        String quoted = told.group(1).replace("\\", "\\\\").replace("\"", "\\\"");
        steps.append("rows.add(new Object[] {\"").append(quoted).append("\", ").append(told.group(1)).append(", ")
            .append(told.group(3)).append("});\n");
    }

    private void run(Path place) throws IOException, ReflectiveOperationException {
        Path source = place.resolve("ReadmeRun.java");
        Files.writeString(source, "public final class ReadmeRun {\n" + helpers
            + "public static void run(java.util.List<Object[]> rows) {\n" + steps + "}\n}\n");
        int failed = ToolProvider.getSystemJavaCompiler().run(null, System.out, System.out, "-cp",
            System.getProperty("java.class.path"), "-d", place.toString(), source.toString());
        Due.is("the Java of README compiles", failed, 0);
        List<Object[]> rows = new ArrayList<>();
        if (failed == 0) {
            try (URLClassLoader loader = new URLClassLoader(new URL[] {place.toUri().toURL()})) {
                loader.loadClass("ReadmeRun").getMethod("run", List.class).invoke(null, rows);
            }
        }
        for (Object[] row : rows) {
            Due.is(row[0] + " answered " + row[1] + ", README tells " + row[2], row[1].toString().equals(row[2].toString()), true);
        }
    }

    private void everyCallIsShown() {
        for (var method : GrilleHotel.class.getDeclaredMethods()) {
            if (java.lang.reflect.Modifier.isPublic(method.getModifiers())) {
                Due.is("README shows " + method.getName(), shown.contains(method.getName()), true);
            }
        }
    }
}
