import java.io.ByteArrayOutputStream;
import java.io.PrintStream;
import java.net.URL;
import java.net.URLClassLoader;
import java.nio.file.Files;
import java.nio.file.Path;
import java.util.ArrayList;
import java.util.List;
import java.util.regex.Matcher;
import java.util.regex.Pattern;
import javax.tools.ToolProvider;

/** What README.md shows, tried: the answers of its example, its commands, the tests that it names. */
public final class Readme {
    private static final Path PAGE = Path.of("README.md");
    private static final Path TESTS = Path.of("src/test/java");
    private static final String DOCUMENT = "../shared/DOC.md";
    private static final String CLASS = "src/main/java/PlaceNets.java";
    /** A line of the example that shows an answer, and the answer that stands behind it. */
    private static final Pattern SHOWN = Pattern.compile("show\\(.*\\); +// (true|false|-?\\d+)\\b.*");
    private static int wrong = 0;
    private static int tried = 0;

    private static void fail(String what) {
        wrong++;
        System.out.println("README.md: " + what);
    }

    /** The lines of the page's block of this kind. */
    private static List<String> block(String page, String kind) {
        Matcher m = Pattern.compile("(?s)\n```" + kind + "\n(.*?)\n```\n").matcher(page);
        if (!m.find()) {
            fail("no block of " + kind);
            return List.of();
        }
        return List.of(m.group(1).split("\n"));
    }

    private static List<String> answersTold(List<String> lines) {
        List<String> told = new ArrayList<>();
        for (String line : lines) {
            Matcher m = SHOWN.matcher(line.trim());
            if (m.matches()) {
                told.add(m.group(1));
            } else if (line.trim().startsWith("show(")) {
                fail("no answer behind " + line.trim());
            }
        }
        return told;
    }

    private static String[] answersGiven(List<String> lines, Path dir) throws Exception {
        Path source = dir.resolve("Example.java");
        Files.write(source, lines);
        int code = ToolProvider.getSystemJavaCompiler().run(null, null, null,
            "-nowarn", "-d", dir.toString(), CLASS, source.toString());
        if (code != 0) {
            fail("the example is refused by javac");
            return new String[0];
        }
        ByteArrayOutputStream out = new ByteArrayOutputStream();
        PrintStream before = System.out;
        try (URLClassLoader loader = new URLClassLoader(new URL[] {dir.toUri().toURL()}, null)) {
            System.setOut(new PrintStream(out, true));
            loader.loadClass("Example").getMethod("main", String[].class).invoke(null, (Object) new String[0]);
        } finally {
            System.setOut(before);
        }
        return out.toString().split("\\R");
    }

    private static void example(String page, Path dir) throws Exception {
        List<String> lines = block(page, "java");
        List<String> told = answersTold(lines);
        String[] given = answersGiven(lines, dir);
        if (told.isEmpty() || told.size() != given.length) {
            fail("the example tells " + told.size() + " answers, " + given.length + " were given");
        }
        for (int i = 0; i < given.length && i < told.size(); i++) {
            tried++;
            if (!told.get(i).equals(given[i])) {
                fail("answer " + i + " of the example is told as " + told.get(i) + ", it is " + given[i]);
            }
        }
    }

    /** Each command is run by a shell where a reader would run it, but for this test, which is running already. */
    private static void commands(String page) throws Exception {
        for (String command : block(page, "sh")) {
            boolean apart = command.contains(DOCUMENT) && !Files.exists(Path.of(DOCUMENT));
            if (command.endsWith(" Readme") || apart) {
                continue;
            }
            tried++;
            Process p = new ProcessBuilder("sh", "-c", command).redirectErrorStream(true).start();
            String said = new String(p.getInputStream().readAllBytes());
            if (p.waitFor() != 0) {
                fail(command + " ended with " + p.exitValue() + ": " + said);
            }
            if (said.contains("not in the document")) {
                fail(command + ": " + said);
            }
        }
    }

    private static void names(String page) throws Exception {
        try (var files = Files.list(TESTS)) {
            for (Path file : (Iterable<Path>) files::iterator) {
                String name = file.getFileName().toString().replace(".java", "");
                tried++;
                if (!page.contains("- `" + name + "`:") || !page.contains("java -cp build/alone " + name)) {
                    fail("does not tell of the test " + name);
                }
            }
        }
        for (String path : List.of(".ci/run", CLASS)) {
            if (!page.contains(path) || !Files.exists(Path.of(path))) {
                fail("tells of " + path);
            }
        }
        if (!Files.isExecutable(Path.of(".ci/run"))) {
            fail(".ci/run can't be run");
        }
    }

    public static void main(String[] args) throws Exception {
        String page = Files.readString(PAGE);
        Path dir = Files.createDirectories(Path.of("build/readme"));
        example(page, dir);
        commands(page);
        names(page);
        System.out.println(tried + " things of README.md tried, " + wrong + " wrong");
        if (wrong != 0) {
            System.exit(1);
        }
    }
}
