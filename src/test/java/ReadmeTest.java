import java.io.IOException;
import java.lang.reflect.Method;
import java.lang.reflect.Modifier;
import java.nio.file.Files;
import java.nio.file.Path;
import java.util.ArrayList;
import java.util.List;
import java.util.regex.Matcher;
import java.util.regex.Pattern;
import javax.tools.JavaCompiler;
import javax.tools.ToolProvider;

/** The example of README.md, compiled and run as it stands there, prints the answers that it names. */
public final class ReadmeTest {
    private static final String CLASS = "src/main/java/GrownGraphs.java";
    private static final Pattern CODE = Pattern.compile("(?ms)^```java\n(.*?)^```$");
    private static final Pattern PRINTS = Pattern.compile("\\s*System\\.out\\.println\\((.*)\\); +// (-?\\d+)(: .+)?");
    private static final Checks c = new Checks();

    public static void main(String[] args) throws Exception {
        String readme = Files.readString(Path.of("README.md"));
        List<String> examples = blocks(readme);
        c.due("how many examples README.md gives", examples.size(), 1);
        for (String example : examples) {
            usesEachCall(example);
            printsWhatItNames(example);
        }
        namesEachTest(readme);
        c.end("ReadmeTest");
    }

    private static List<String> blocks(String readme) {
        List<String> found = new ArrayList<>();
        Matcher code = CODE.matcher(readme);
        while (code.find()) {
            found.add(code.group(1));
        }
        return found;
    }

    private static void usesEachCall(String example) {
        for (Method method : GrownGraphs.class.getDeclaredMethods()) {
            if (Modifier.isPublic(method.getModifiers())) {
                c.holds("the example uses " + method.getName(), example.contains("x." + method.getName() + "("));
            }
        }
    }

    private static void printsWhatItNames(String example) throws IOException, InterruptedException {
        List<String> calls = new ArrayList<>();
        List<String> answers = new ArrayList<>();
        for (String line : example.split("\n")) {
            Matcher prints = PRINTS.matcher(line);
            boolean matches = prints.matches();
            c.holds("an answer is named behind" + line, matches || !line.contains("println"));
            if (matches) {
                calls.add(prints.group(1));
                answers.add(prints.group(2));
            }
        }
        List<String> printed = run(example);
        c.due("how many lines the example prints", printed.size(), answers.size());
        for (int i = 0; i < Math.min(printed.size(), answers.size()); i++) {
            c.due("in README.md " + calls.get(i), printed.get(i), answers.get(i));
        }
    }

    private static List<String> run(String example) throws IOException, InterruptedException {
        Path room = Files.createTempDirectory("readme");
        Path source = room.resolve("Example.java");
        Path output = room.resolve("output");
        Files.writeString(source, example);
        JavaCompiler compiler = ToolProvider.getSystemJavaCompiler();
        int compiled = compiler.run(null, null, null, "-Xlint:all", "-Werror", "--release", "17", "-d", room.toString(),
                CLASS, source.toString());
        c.due("the compiler, of the example", compiled, 0);
        String java = Path.of(System.getProperty("java.home"), "bin", "java").toString();
        int ended = new ProcessBuilder(java, "-cp", room.toString(), "Example").redirectErrorStream(true)
                .redirectOutput(output.toFile()).start().waitFor();
        c.due("the exit code of the example", ended, 0);
        List<String> printed = Files.readAllLines(output);
        clear(room);
        return printed;
    }

    private static void clear(Path room) throws IOException {
        try (var paths = Files.walk(room)) {
            for (Path path : paths.sorted(java.util.Comparator.reverseOrder()).toList()) {
                Files.delete(path);
            }
        }
    }

    private static void namesEachTest(String readme) throws IOException {
        try (var files = Files.list(Path.of("src/test/java"))) {
            for (Path file : files.toList()) {
                String name = file.getFileName().toString().replace(".java", "");
                c.holds("README.md names " + name, !name.endsWith("Test") || readme.contains("`" + name + "`"));
            }
        }
    }
}
