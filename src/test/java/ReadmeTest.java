import java.io.IOException;
import java.lang.reflect.InvocationTargetException;
import java.lang.reflect.Method;
import java.lang.reflect.Modifier;
import java.net.URL;
import java.net.URLClassLoader;
import java.nio.charset.StandardCharsets;
import java.nio.file.Files;
import java.nio.file.Path;
import java.util.ArrayList;
import java.util.List;
import java.util.regex.Matcher;
import java.util.regex.Pattern;
import java.util.stream.Collectors;
import java.util.stream.Stream;
import javax.tools.JavaCompiler;
import javax.tools.ToolProvider;

/**
 * README.md as it stands: its java blocks are compiled as one run of calls, each held against the answer in its comment;
 * its sh blocks are run, and print what the text block behind them says; its tables name what is there.
 */
public final class ReadmeTest {
    private static final Path README = Path.of("README.md");
    /** A call with its answer: a number, or a constant's name, up to a colon or the line's end. */
    private static final Pattern ANSWERED = Pattern.compile("(x\\.(\\w+)\\(.*\\)); +// (-?\\w+|Long\\.MIN_VALUE)(: .*)?");

    private record Block(String kind, int line, List<String> lines) {
    }

    private final Check check = new Check("README.md, line ");
    private final List<Block> blocks = new ArrayList<>();

    private ReadmeTest() {
    }

    public static void main(String[] args) throws Exception {
        ReadmeTest test = new ReadmeTest();
        List<String> lines = Files.readAllLines(README);
        test.findBlocks(lines);
        test.playCalls();
        test.lookForAllCalls();
        test.runCommands();
        test.lookAtTables(lines);
        test.check.end("ReadmeTest");
    }

    private void findBlocks(List<String> lines) {
        Block open = null;
        for (int i = 0; i < lines.size(); i++) {
            String line = lines.get(i);
            if (open == null && line.startsWith("```")) {
                open = new Block(line.substring(3), i + 2, new ArrayList<>());
            } else if (open != null && line.equals("```")) {
                blocks.add(open);
                open = null;
            } else if (open != null) {
                open.lines.add(line);
            }
        }
        check.due("blocks are closed", open == null ? 1 : 0, 1);
    }

    private List<Block> blocksOf(String kind) {
        return blocks.stream().filter(b -> b.kind.equals(kind)).collect(Collectors.toList());
    }

    // ---- calls

    private void playCalls() throws Exception {
        StringBuilder program = new StringBuilder();
        int answers = 0;
        for (Block block : blocksOf("java")) {
            for (int i = 0; i < block.lines.size(); i++) {
                String line = block.lines.get(i);
                Matcher m = ANSWERED.matcher(line);
                if (m.matches()) {
                    String answer = m.group(3).matches("[A-Z]+") ? "ChainsHold." + m.group(3) : m.group(3);
                    program.append("got.add((long) ").append(m.group(1)).append("); due.add((long) ").append(answer)
                        .append("); at.add(").append(block.line + i).append("L);\n");
                    answers++;
                } else {
                    check.promise(block.line + i);
                    check.due("a call without its answer: " + line, line.contains("//") || line.matches("x\\..*") ? 1 : 0, 0);
                    program.append(line).append('\n');
                }
            }
        }
        List<List<Long>> played = play(program.toString());
        check.due("answers", played.get(0).size(), answers);
        for (int i = 0; i < answers; i++) {
            check.promise(played.get(2).get(i).intValue());
            check.due("the call", played.get(0).get(i), played.get(1).get(i));
        }
    }

    private static List<List<Long>> play(String calls) throws IOException, ReflectiveOperationException {
        Path folder = Files.createTempDirectory("readme");
        Path source = folder.resolve("ReadmeCalls.java");
        for (Path made : List.of(folder, source, folder.resolve("ReadmeCalls.class"))) {
            made.toFile().deleteOnExit();
        }
        Files.writeString(source, "import java.util.List;\npublic final class ReadmeCalls {\npublic static void play(List<Long> got, "
            + "List<Long> due, List<Long> at) {\n" + calls + "}\n}\n");
        JavaCompiler compiler = ToolProvider.getSystemJavaCompiler();
        int code = compiler.run(null, null, null, "-nowarn", "-cp", System.getProperty("java.class.path"), "-d",
            folder.toString(), source.toString());
        if (code != 0) {
            throw new IllegalStateException("the calls of README.md do not compile");
        }
        List<List<Long>> all = List.of(new ArrayList<>(), new ArrayList<>(), new ArrayList<>());
        try (URLClassLoader loader = new URLClassLoader(new URL[] {folder.toUri().toURL()})) {
            loader.loadClass("ReadmeCalls").getMethod("play", List.class, List.class, List.class)
                .invoke(null, all.get(0), all.get(1), all.get(2));
        } catch (InvocationTargetException e) {
            throw new IllegalStateException(e.getCause());
        }
        return all;
    }

    /** A call of each kind, with its answer. */
    private void lookForAllCalls() {
        check.promise(0);
        for (Method m : ChainsHold.class.getDeclaredMethods()) {
            if (Modifier.isPublic(m.getModifiers())) {
                boolean shown = blocksOf("java").stream().flatMap(b -> b.lines.stream()).map(ANSWERED::matcher)
                    .anyMatch(a -> a.matches() && a.group(2).equals(m.getName()));
                check.due(m.getName() + "() is shown with its answer", shown ? 1 : 0, 1);
            }
        }
    }

    // ---- commands

    private void runCommands() throws IOException, InterruptedException {
        for (int i = 0; i < blocks.size(); i++) {
            Block block = blocks.get(i);
            if (!block.kind.equals("sh")) {
                continue;
            }
            check.promise(block.line);
            Path script = Files.createTempFile("readme", ".sh");
            Files.writeString(script, "set -e\n" + String.join("\n", block.lines) + "\n");
            Path printed = Files.createTempFile("readme", ".txt");
            script.toFile().deleteOnExit();
            printed.toFile().deleteOnExit();
            Process process = new ProcessBuilder("bash", script.toString()).redirectErrorStream(true)
                .redirectOutput(printed.toFile()).start();
            int code = process.waitFor();
            String told = Files.readString(printed, StandardCharsets.UTF_8);
            if (code != 0) {
                System.out.println(told);
            }
            check.due("its commands' exit code", code, 0);
            if (i + 1 < blocks.size() && blocks.get(i + 1).kind.equals("text")) {
                check.due("they print " + told, told.equals(String.join("\n", blocks.get(i + 1).lines) + "\n") ? 1 : 0, 1);
            }
        }
    }

    // ---- tables

    private void lookAtTables(List<String> lines) throws IOException {
        check.promise(0);
        List<String> rows = lines.stream().filter(l -> l.startsWith("| ")).collect(Collectors.toList());
        for (Class<?> inside : ChainsHold.class.getDeclaredClasses()) {
            check.due("a row for " + inside.getSimpleName(), rowsOf(rows, inside.getSimpleName()), 1);
        }
        List<String> tests = new ArrayList<>();
        for (Path folder : List.of(Path.of("src/test/java"), Path.of("../shared/tests"))) {
            try (Stream<Path> files = Files.list(folder)) {
                files.map(f -> f.getFileName().toString()).filter(f -> folder.endsWith("tests") || f.endsWith("Test.java"))
                    .forEach(f -> tests.add(f.replace(".java", "")));
            }
        }
        for (String test : tests) {
            check.due("a row for " + test, rowsOf(rows, test), 1);
        }
        for (String row : rows) {
            Matcher m = Pattern.compile("\\| `(\\w+Test)` .*").matcher(row);
            check.due("the test of the row " + row, !m.matches() || tests.contains(m.group(1)) ? 1 : 0, 1);
        }
        lookAtRefusals(rows);
    }

    private static long rowsOf(List<String> rows, String name) {
        return rows.stream().filter(r -> r.startsWith("| `" + name + "` ")).count();
    }

    private void lookAtRefusals(List<String> rows) {
        long[] values = {ChainsHold.BAD, ChainsHold.NOT, ChainsHold.FULL, ChainsHold.STATE, ChainsHold.VOID, Long.MIN_VALUE};
        String[] names = {"BAD", "NOT", "FULL", "STATE", "VOID", "Long.MIN_VALUE"};
        for (int k = 0; k < names.length; k++) {
            String start = "| " + values[k] + " | `" + names[k] + "` | ";
            check.due("a row that starts with " + start, rows.stream().filter(r -> r.startsWith(start)).count(), 1);
        }
        for (int code = -11; code >= -14; code--) {
            String start = "| " + code + " | | ";
            check.due("a row that starts with " + start, rows.stream().filter(r -> r.startsWith(start)).count(), 1);
        }
    }
}
