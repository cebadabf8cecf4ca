import java.io.IOException;
import java.net.URL;
import java.net.URLClassLoader;
import java.nio.charset.StandardCharsets;
import java.nio.file.Files;
import java.nio.file.Path;
import java.util.ArrayList;
import java.util.Comparator;
import java.util.List;
import java.util.regex.Matcher;
import java.util.regex.Pattern;
import java.util.stream.Stream;
import javax.tools.ToolProvider;

/** README.md tells the truth: its examples are run, and its table of laws is compared with the class. */
public final class ReadmeTest extends Checks {
    private static final Pattern ANSWER = Pattern.compile("(\\w+ (\\w+) = .*;) +// ([^: ]+)(:.*)?");
    private static final Pattern WEIGHTS = Pattern.compile("\\| `(\\w)` \\|.*\\| (\\d+) \\| (\\d+) \\| (\\d+) \\|");
    private final List<String> page = Files.readAllLines(Path.of("README.md"), StandardCharsets.UTF_8);
    /** The examples as one program, which gathers the answers. */
    private final StringBuilder program = new StringBuilder();
    private final List<String> calls = new ArrayList<>();
    private final List<String> told = new ArrayList<>();

    private ReadmeTest() throws IOException {
    }

    public static void main(String[] args) throws Exception {
        ReadmeTest test = new ReadmeTest();
        test.laws();
        test.examples();
        end("the page tells the truth");
    }

    private void laws() {
        StringBuilder laws = new StringBuilder();
        for (String line : page) {
            Matcher row = WEIGHTS.matcher(line);
            if (row.matches()) {
                char law = row.group(1).charAt(0);
                laws.append(law);
                Counterpointery x = new Counterpointery();
                for (int style = 0; style <= 2; style++) {
                    x.style(style);
                    due(law + " with style " + style, x.weight(law), Integer.valueOf(row.group(2 + style)));
                }
            }
        }
        due("the laws of the table", laws.toString(), LAWS);
    }

    private void examples() throws Exception {
        program.append("public class Example {\npublic static void run(java.util.List<String> answers) {\n");
        boolean isExample = false;
        for (String line : page) {
            if (line.startsWith("```")) {
                isExample = line.equals("```java");
            } else if (isExample) {
                addLine(line);
            }
        }
        program.append("}\n}\n");
        List<String> answers = new ArrayList<>();
        Path folder = Files.createTempDirectory("readme");
        try {
            run(folder, answers);
        } finally {
            remove(folder);
        }
        due("the number of answers", answers.size(), told.size());
        for (int i = 0; i < Math.min(answers.size(), told.size()); i++) {
            due(calls.get(i), answers.get(i), told.get(i));
        }
        due("the page has answers", told.size() > 20, true);
    }

    private void addLine(String line) {
        program.append(line).append('\n');
        Matcher answer = ANSWER.matcher(line);
        if (answer.matches()) {
            program.append("answers.add(String.valueOf(").append(answer.group(2)).append("));\n");
            calls.add(answer.group(1));
            told.add(answer.group(3));
        }
    }

    private void run(Path folder, List<String> answers) throws Exception {
        Path source = folder.resolve("Example.java");
        Files.writeString(source, program, StandardCharsets.UTF_8);
        String path = System.getProperty("java.class.path");
        int code = ToolProvider.getSystemJavaCompiler().run(null, null, null, "-proc:none", "-cp", path, "-d",
                folder.toString(), source.toString());
        due("compiling the examples", code, 0);
        if (code == 0) {
            try (URLClassLoader loader = new URLClassLoader(new URL[] {folder.toUri().toURL()})) {
                loader.loadClass("Example").getMethod("run", List.class).invoke(null, answers);
            }
        }
    }

    private static void remove(Path folder) throws IOException {
        try (Stream<Path> files = Files.walk(folder)) {
            for (Path file : files.sorted(Comparator.reverseOrder()).toList()) {
                Files.delete(file);
            }
        }
    }
}
