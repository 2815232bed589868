import java.io.IOException;
import java.nio.file.Files;
import java.nio.file.Path;
import java.util.ArrayList;
import java.util.Arrays;
import java.util.List;
import java.util.stream.Collectors;
import java.util.stream.Stream;

/**
 * The edges of the document, sentence by sentence: src/test/edges/*.txt quotes each of them behind a >, and tells under
 * it calls on a new object with the answers that its words make due (README.md says how these files are written).
 * Each quote is looked for in ../shared/DOC.md, and all that it tells must be quoted, from its first line to its last.
 */
public final class EdgesTest {
    private static final Path EDGES = Path.of("src/test/edges");
    private static final Path DOCUMENT = Path.of("../shared/DOC.md");

    private final List<String> quotes = new ArrayList<>();
    private int sentences;
    private int wrong;

    private EdgesTest() {
    }

    public static void main(String[] args) throws IOException {
        EdgesTest test = new EdgesTest();
        List<Path> files;
        try (Stream<Path> found = Files.list(EDGES)) {
            files = found.filter(f -> f.toString().endsWith(".txt")).sorted().collect(Collectors.toList());
        }
        for (Path file : files) {
            test.readFile(file);
        }
        test.lookIntoDocument();
        System.out.println("EdgesTest: " + test.sentences + " sentences, " + EdgeRun.asked() + " answers, " + test.wrong
            + " not as due");
        if (test.wrong != 0 || test.sentences == 0) {
            System.exit(1);
        }
    }

    private void readFile(Path file) throws IOException {
        EdgeRun run = null;
        String quote = "";
        boolean quoting = false;
        int number = 0;
        for (String line : Files.readAllLines(file)) {
            number++;
            String told = line.strip();
            String place = file.getFileName() + ":" + number;
            if (told.startsWith(">")) {
                quote = quoting ? quote + " " + told.substring(1).strip() : told.substring(1).strip();
                quoting = true;
                continue;
            }
            if (quoting) {
                end(run);
                run = new EdgeRun(quote);
                quotes.add(quote);
                sentences++;
                quoting = false;
            }
            if (told.equals("new")) {
                end(run);
                run = new EdgeRun(quote);
            } else if (!told.isEmpty() && !told.startsWith("#")) {
                play(run, told, place);
            }
        }
        end(run);
    }

    private void play(EdgeRun run, String told, String place) {
        try {
            for (String fault : run.play(told)) {
                fault(place + ": " + fault + "\n    > " + run.quote());
            }
        } catch (ReflectiveOperationException | RuntimeException e) {
            fault(place + ": '" + told + "' cannot be played: " + e + " " + e.getCause());
        }
    }

    private void end(EdgeRun run) {
        if (run == null) {
            return;
        }
        try {
            for (String fault : run.end()) {
                fault(fault + "\n    > " + run.quote());
            }
        } catch (ReflectiveOperationException | RuntimeException e) {
            fault("the end of '" + run.quote() + "' cannot be played: " + e + " " + e.getCause());
        }
    }

    private void fault(String what) {
        wrong++;
        System.out.println(what);
    }

    // ---- the document

    private static String plain(String text) {
        return text.replaceAll("\\s+", " ").strip();
    }

    private void lookIntoDocument() throws IOException {
        if (!Files.exists(DOCUMENT)) {
            System.out.println("EdgesTest: " + DOCUMENT + " is not there, quotes were not looked for");
            return;
        }
        String document = plain(Files.readString(DOCUMENT));
        for (String quote : quotes) {
            if (!document.contains(plain(quote))) {
                fault("the document does not say: " + quote);
            }
        }
        lookForGaps(plain(toldPart()));
    }

    /** What of the document tells what calls answer: without headings, the face (FaceTest) and what is not promised. */
    private static String toldPart() throws IOException {
        StringBuilder told = new StringBuilder();
        boolean face = false;
        for (String line : Files.readAllLines(DOCUMENT)) {
            if (line.equals("## Not promised")) {
                break;
            }
            face = line.equals("```java") || face && !line.equals("```");
            if (!face && !line.startsWith("#") && !line.startsWith("```")) {
                told.append(withoutHead(line)).append('\n');
            }
        }
        return told.toString();
    }

    private static String withoutHead(String line) {
        return line.replaceFirst("^`.*\\)`: ", "").replaceFirst("^======== \\d ", "").replaceFirst("^DETAILS\\. ", "")
            .replaceFirst("^Ahead of the calls .* the interface says: ---- [a-z, ]+", "")
            .replaceFirst("All memory is the class's own\\.$", ""); // MemoryTest looks at this
    }

    /** Each sign of it must stand in a quote. */
    private void lookForGaps(String told) {
        boolean[] quoted = new boolean[told.length()];
        for (String quote : quotes) {
            String part = plain(quote);
            for (int at = told.indexOf(part); at >= 0; at = told.indexOf(part, at + 1)) {
                Arrays.fill(quoted, at, at + part.length(), true);
            }
        }
        for (int from = 0, to = 0; from < told.length(); from = to + 1) {
            to = from;
            while (to < told.length() && !quoted[to]) {
                to++;
            }
            String gap = told.substring(from, to);
            if (gap.matches("(?s).*\\w.*")) {
                fault("no test quotes: " + gap);
            }
        }
    }
}
