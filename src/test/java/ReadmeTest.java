import java.io.ByteArrayOutputStream;
import java.io.IOException;
import java.io.PrintStream;
import java.lang.reflect.Field;
import java.lang.reflect.Modifier;
import java.net.URL;
import java.net.URLClassLoader;
import java.nio.charset.StandardCharsets;
import java.nio.file.Files;
import java.nio.file.Path;
import java.util.ArrayList;
import java.util.List;
import java.util.regex.Matcher;
import java.util.regex.Pattern;
import java.util.stream.Stream;
import javax.tools.ToolProvider;

/** README.md tells the truth: its example is compiled and run, its constants and tests are the ones there are. */
public final class ReadmeTest {
    private static final Path PLACE = Path.of("build/readme");

    private final Check check = new Check();
    private final String page;

    private ReadmeTest() throws IOException {
        page = Files.readString(Path.of("README.md"));
    }

    public static void main(String[] args) throws IOException, ReflectiveOperationException {
        ReadmeTest t = new ReadmeTest();
        t.constants();
        t.tests();
        t.example();
        t.check.end();
    }

    private void constants() throws IllegalAccessException {
        for (Field f : LieAlgebra.class.getDeclaredFields()) {
            if (Modifier.isPublic(f.getModifiers())) {
                Pattern row = Pattern.compile("\\| `" + f.getName() + "` *\\| " + f.getInt(null) + " +\\| \\w");
                check.dueTrue("README.md says what " + f.getName() + " means", row.matcher(page).find());
            }
        }
    }

    private void tests() throws IOException {
        try (Stream<Path> files = Files.list(Path.of("src/test/java"))) {
            files.map(file -> file.getFileName().toString().replace(".java", ""))
                    .filter(name -> name.endsWith("Test"))
                    .forEach(name -> check.dueTrue("README.md names " + name, page.contains("`" + name + "`")));
        }
    }

    private void example() throws IOException, ReflectiveOperationException {
        Matcher block = Pattern.compile("(?s)```java\n(.*?)```").matcher(page);
        check.dueTrue("README.md has an example", block.find());
        String program = block.group(1);
        Files.createDirectories(PLACE);
        Path file = PLACE.resolve("Mine.java");
        Files.writeString(file, program);
        int code = ToolProvider.getSystemJavaCompiler().run(null, null, null, "--release", "17", "-d",
                PLACE.toString(), "src/main/java/LieAlgebra.java", file.toString());
        check.due("the code of javac for the example", code, 0);
        if (code == 0) {
            String printed = run();
            check.dueTrue("the example prints " + promisedBy(program) + ", but printed " + printed,
                    printed.equals(promisedBy(program).toString()));
        }
    }

    /** What stands as a comment behind each line that prints. */
    private static List<String> promisedBy(String program) {
        List<String> numbers = new ArrayList<>();
        for (String line : program.split("\n")) {
            if (line.contains("println")) {
                numbers.add(line.replaceFirst(".*// (-?\\d+)(:.*)?$", "$1"));
            }
        }
        return numbers;
    }

    private static String run() throws IOException, ReflectiveOperationException {
        ByteArrayOutputStream bytes = new ByteArrayOutputStream();
        PrintStream usual = System.out;
        URL[] places = {PLACE.toUri().toURL()};
        try (URLClassLoader loader = new URLClassLoader(places, ClassLoader.getPlatformClassLoader());
                PrintStream caught = new PrintStream(bytes, true, StandardCharsets.UTF_8)) {
            System.setOut(caught);
            loader.loadClass("Mine").getMethod("main", String[].class).invoke(null, (Object) new String[0]);
        } finally {
            System.setOut(usual);
        }
        return List.of(bytes.toString(StandardCharsets.UTF_8).split("\\R")).toString();
    }
}
