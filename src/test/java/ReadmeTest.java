import java.io.ByteArrayOutputStream;
import java.io.IOException;
import java.io.PrintStream;
import java.lang.reflect.Method;
import java.lang.reflect.Modifier;
import java.nio.file.Files;
import java.nio.file.Path;
import java.util.List;
import java.util.stream.Collectors;
import java.util.stream.Stream;

/** README.md tells what is so: its example stands there as it is run, every call and every test is named. */
public final class ReadmeTest {
    private static final Path EXAMPLE = Path.of("src/example/java/Example.java");

    public static void main(String[] args) throws IOException {
        String readme = Files.readString(Path.of("README.md"));
        String example = Files.readString(EXAMPLE);
        Check.due("the example stands in README.md", block(readme, "java").equals(example), true);
        Check.due("so does what it prints", block(readme, "text").equals(printed()), true);
        for (Method call : CenturyGates.class.getDeclaredMethods()) {
            if (Modifier.isPublic(call.getModifiers())) {
                named(readme, call.getName());
            }
        }
        for (String test : tests()) {
            named(readme, test);
        }
        Check.finish();
    }

    private static void named(String readme, String name) {
        Check.due(name + " is named in README.md", readme.contains("`" + name + "`"), true);
    }

    private static String block(String readme, String kind) {
        String fence = "\n```" + kind + "\n";
        int start = readme.indexOf(fence);
        int end = readme.indexOf("\n```\n", start + fence.length());
        return start < 0 || end < 0 ? "" : readme.substring(start + fence.length(), end + 1);
    }

    private static String printed() {
        PrintStream before = System.out;
        ByteArrayOutputStream bytes = new ByteArrayOutputStream();
        System.setOut(new PrintStream(bytes, true));
        Example.main(new String[0]);
        System.setOut(before);
        return bytes.toString().replace(System.lineSeparator(), "\n");
    }

    private static List<String> tests() throws IOException {
        try (Stream<Path> files = Files.list(Path.of("src/test/java"))) {
            return files.map(file -> file.getFileName().toString()).filter(name -> name.endsWith("Test.java"))
                    .map(name -> name.replace(".java", "")).sorted().collect(Collectors.toList());
        }
    }
}
