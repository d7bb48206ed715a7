import java.io.IOException;
import java.nio.file.Files;
import java.nio.file.Path;
import java.util.ArrayList;
import java.util.List;
import java.util.Set;
import java.util.TreeSet;
import java.util.regex.Matcher;
import java.util.regex.Pattern;
import java.util.stream.Stream;

/**
 * The sentences of the document that name a boundary, one by one: src/test/edges holds a run of calls
 * on a new object for each, in the form that its README.md tells. Each call that only asks, and each
 * that is refused, is looked at for changing nothing.
 */
public final class EdgesTest {
    private static final Path EDGES = Path.of("src/test/edges");
    private static final int PARTS = 4;
    private static final int PROMISES = 32;

    private static final Check CHECK = new Check();

    public static void main(String[] args) throws IOException {
        Set<String> told = new TreeSet<>();
        int sentences = 0;
        for (Path file : files()) {
            EdgeRun run = null;
            int number = 0;
            for (String line : Files.readAllLines(file)) {
                number++;
                String where = file.getFileName() + ":" + number;
                if (line.startsWith("== ")) {
                    close(run);
                    run = new EdgeRun(CHECK, line.substring(3));
                    told.add(headOf(where, line.substring(3)));
                    sentences++;
                } else if (!line.isBlank() && !line.startsWith("#")) {
                    run.line(where, line.strip());
                }
            }
            close(run);
        }
        CHECK.part("src/test/edges");
        for (int part = 1; part <= PARTS; part++) {
            CHECK.holds("Terms " + part + " is there", told.contains("Terms " + part));
        }
        for (int promise = 1; promise <= PROMISES; promise++) {
            CHECK.holds("Promise " + promise + " is there", told.contains("Promise " + promise));
        }
        System.out.println(sentences + " sentences, " + EdgeRun.looks() + " calls looked at for changing nothing");
        CHECK.finish();
    }

    private static List<Path> files() throws IOException {
        List<Path> files = new ArrayList<>();
        try (Stream<Path> all = Files.list(EDGES)) {
            all.filter(file -> file.toString().endsWith(".txt")).sorted().forEach(files::add);
        }
        return files;
    }

    private static String headOf(String where, String title) {
        Matcher head = Pattern.compile("(Terms|Promise) \\d+(?=: )").matcher(title);
        CHECK.part(where);
        CHECK.holds("the title begins with its promise or part: " + title, head.lookingAt());
        return head.lookingAt() ? head.group() : "";
    }

    private static void close(EdgeRun run) {
        if (run != null) {
            run.close();
        }
    }
}
