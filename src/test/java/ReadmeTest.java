import java.io.File;
import java.io.IOException;
import java.lang.reflect.Method;
import java.lang.reflect.Modifier;
import java.nio.file.Files;
import java.nio.file.Path;
import java.util.Comparator;
import java.util.List;
import java.util.regex.Matcher;
import java.util.regex.Pattern;
import java.util.stream.Stream;

/** README.md: its program is compiled and run, and each call and each test is told there. */
public final class ReadmeTest {
    private static final Path README = Path.of("README.md");
    private static final Path TESTS = Path.of("src/test/java");

    private static final Check CHECK = new Check();

    /** How a command ended, and what it printed. */
    private record Told(int code, List<String> lines) {
    }

    public static void main(String[] args) throws IOException, InterruptedException {
        String text = Files.readString(README);
        CHECK.part("README.md");
        program(block(text, "java"), block(text, "text"));
        calls(text);
        tests(text);
        CHECK.finish();
    }

    private static String block(String text, String kind) {
        Matcher m = Pattern.compile("(?s)\n```" + kind + "\n(.*?)\n```\n").matcher(text);
        boolean found = m.find();
        CHECK.holds("a block of " + kind, found);
        return found ? m.group(1) : "";
    }

    private static void program(String source, String due) throws IOException, InterruptedException {
        Path directory = Files.createTempDirectory("readme");
        try {
            Path file = Files.writeString(directory.resolve("Example.java"), source + "\n");
            String out = directory.toString();
            String classes = System.getProperty("java.class.path") + File.pathSeparator + out;
            CHECK.due("compiling the program",
                told("javac", "-cp", classes, "-d", out, file.toString()).code(), 0);
            Told run = told("java", "-cp", classes, "Example");
            CHECK.due("running the program", run.code(), 0);
            CHECK.holds("the program prints what is told, not " + run.lines(),
                run.lines().equals(due.lines().toList()));
        } finally {
            delete(directory);
        }
    }

    private static Told told(String... command) throws IOException, InterruptedException {
        // What the machine itself says (of options that it picked up) is no answer of the program.
        Process process = new ProcessBuilder(command).redirectError(ProcessBuilder.Redirect.INHERIT).start();
        List<String> lines = new String(process.getInputStream().readAllBytes()).lines().toList();
        return new Told(process.waitFor(), lines);
    }

    private static void delete(Path directory) throws IOException {
        try (Stream<Path> all = Files.walk(directory)) {
            for (Path one : all.sorted(Comparator.reverseOrder()).toList()) {
                Files.delete(one);
            }
        }
    }

    private static void calls(String text) {
        for (Method method : RowFirst.class.getDeclaredMethods()) {
            if (Modifier.isPublic(method.getModifiers())) {
                Matcher m = Pattern.compile("(?m)^\\|.*`" + method.getName() + "\\(([^)]*)\\)`").matcher(text);
                boolean found = m.find();
                CHECK.holds(method.getName() + " stands in the table of calls", found);
                String told = found ? m.group(1) : "";
                int parameters = told.isEmpty() ? 0 : told.split(", ").length;
                CHECK.due("parameters of " + method.getName(), parameters, method.getParameterCount());
            }
        }
    }

    private static void tests(String text) throws IOException {
        try (Stream<Path> all = Files.list(TESTS)) {
            for (Path test : all.filter(file -> file.toString().endsWith("Test.java")).toList()) {
                CHECK.holds(test + " is told of", text.contains("`" + test.toString().replace('\\', '/') + "`"));
            }
        }
    }
}
