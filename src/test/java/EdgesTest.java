import java.io.IOException;
import java.nio.file.Files;
import java.nio.file.Path;
import java.util.ArrayList;
import java.util.List;
import java.util.stream.Collectors;
import java.util.stream.Stream;

/**
 * The edges of the document, sentence by sentence: src/test/edges/*.txt quotes each of them behind a >, and tells under
 * it calls on a new object with the answers that its words make due (README.md says how these files are written).
 * Each quote is looked for in ../shared/DOC.md, and each promise of the document must be quoted whole.
 */
public final class EdgesTest {
    private static final Path EDGES = Path.of("src/test/edges");
    private static final Path DOCUMENT = Path.of("../shared/DOC.md");

    private final List<String> quotes = new ArrayList<>();
    private int sentences;
    private int wrong;

    private EdgesTest() {
    }

    public static void main(String[] args) throws IOException {
        EdgesTest test = new EdgesTest();
        List<Path> files;
        try (Stream<Path> found = Files.list(EDGES)) {
            files = found.filter(f -> f.toString().endsWith(".txt")).sorted().collect(Collectors.toList());
        }
        for (Path file : files) {
            test.readFile(file);
        }
        test.lookIntoDocument();
        System.out.println("EdgesTest: " + test.sentences + " sentences, " + EdgeRun.asked() + " answers, " + test.wrong
            + " not as due");
        if (test.wrong != 0 || test.sentences == 0) {
            System.exit(1);
        }
    }

    private void readFile(Path file) throws IOException {
        EdgeRun run = null;
        String quote = "";
        boolean quoting = false;
        int number = 0;
        for (String line : Files.readAllLines(file)) {
            number++;
            String told = line.strip();
            String place = file.getFileName() + ":" + number;
            if (told.startsWith(">")) {
                quote = quoting ? quote + " " + told.substring(1).strip() : told.substring(1).strip();
                quoting = true;
                continue;
            }
            if (quoting) {
                end(run);
                run = new EdgeRun(quote);
                quotes.add(quote);
                sentences++;
                quoting = false;
            }
            if (told.equals("new")) {
                end(run);
                run = new EdgeRun(quote);
            } else if (!told.isEmpty() && !told.startsWith("#")) {
                play(run, told, place);
            }
        }
        end(run);
    }

    private void play(EdgeRun run, String told, String place) {
        try {
            for (String fault : run.play(told)) {
                fault(place + ": " + fault + "\n    > " + run.quote());
            }
        } catch (ReflectiveOperationException | RuntimeException e) {
            fault(place + ": '" + told + "' cannot be played: " + e + " " + e.getCause());
        }
    }

    private void end(EdgeRun run) {
        if (run == null) {
            return;
        }
        try {
            for (String fault : run.end()) {
                fault(fault + "\n    > " + run.quote());
            }
        } catch (ReflectiveOperationException | RuntimeException e) {
            fault("the end of '" + run.quote() + "' cannot be played: " + e + " " + e.getCause());
        }
    }

    private void fault(String what) {
        wrong++;
        System.out.println(what);
    }

    // ---- the document

    private static String plain(String text) {
        return text.replaceAll("\\s+", " ").strip();
    }

    private void lookIntoDocument() throws IOException {
        if (!Files.exists(DOCUMENT)) {
            System.out.println("EdgesTest: " + DOCUMENT + " is not there, quotes were not looked for");
            return;
        }
        String document = plain(Files.readString(DOCUMENT));
        for (String quote : quotes) {
            if (!document.contains(plain(quote))) {
                fault("the document does not say: " + quote);
            }
        }
        for (String line : Files.readAllLines(DOCUMENT)) {
            boolean isPromise = line.matches("`\\w+ ?\\w*\\(.*\\)`: .*");
            if (isPromise && !isQuoted(line.substring(line.indexOf("`: ") + 3))) {
                fault("no test quotes: " + line);
            }
        }
    }

    private boolean isQuoted(String part) {
        return quotes.stream().anyMatch(q -> plain(q).contains(plain(part)));
    }
}
