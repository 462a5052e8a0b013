import java.io.IOException;
import java.net.URL;
import java.net.URLClassLoader;
import java.nio.file.Files;
import java.nio.file.Path;
import java.util.ArrayList;
import java.util.List;
import java.util.concurrent.Callable;
import java.util.regex.Matcher;
import java.util.regex.Pattern;
import javax.tools.ToolProvider;

/** The example of README.md compiles as it stands there, and each answer told behind a line is the class's answer. */
public final class ReadmeTest {
    private static final Path README = Path.of("README.md");
    private static final Pattern EXAMPLE = Pattern.compile("(?s)```java\n(.*?)```");
    private static final Pattern ANSWER = Pattern.compile("(?:int|long|boolean) (\\w+) = (unit\\..*); +// (\\S+)");

    /** A call of the example, the variable that takes its answer, and the answer told. */
    private record Told(String call, String variable, String answer) {
    }

    public static void main(String[] args) throws Exception {
        Matcher example = EXAMPLE.matcher(Files.readString(README));
        Check.holds("README.md has an example", example.find());
        List<Told> told = toldIn(example.group(1));
        Check.holds("the example tells answers", !told.isEmpty());
        List<?> answers = answersOf(programOf(example.group(1), told));
        for (int i = 0; i < told.size(); i++) {
            Check.holds(told.get(i) + " is what the class answers: " + answers.get(i),
                told.get(i).answer().equals(named(answers.get(i))));
        }
        Check.end();
    }

    private static List<Told> toldIn(String example) {
        List<Told> told = new ArrayList<>();
        for (String line : example.split("\n")) {
            Matcher answer = ANSWER.matcher(line);
            if (answer.matches()) {
                told.add(new Told(answer.group(2), answer.group(1), answer.group(3)));
            } else {
                Check.holds("'" + line + "' takes no answer without telling it", !line.contains(" = unit."));
            }
        }
        return told;
    }

    private static String programOf(String example, List<Told> told) {
        String variables = String.join(", ", told.stream().map(Told::variable).toList());
        return "public class ReadmeExample implements java.util.concurrent.Callable<java.util.List<?>> {\n"
            + "public java.util.List<?> call() {\n" + example
            + "return java.util.Arrays.asList(" + variables + ");\n}\n}\n";
    }

    private static List<?> answersOf(String program) throws Exception {
        Path folder = Files.createTempDirectory("readme");
        try {
            Path file = folder.resolve("ReadmeExample.java");
            Files.writeString(file, program);
            int failed = ToolProvider.getSystemJavaCompiler().run(null, System.out, System.out, "--release", "17",
                "-cp", System.getProperty("java.class.path"), "-d", folder.toString(), file.toString());
            if (failed != 0) {
                throw new IllegalStateException("the example of README.md does not compile");
            }
            return answersFrom(folder);
        } finally {
            delete(folder);
        }
    }

    private static List<?> answersFrom(Path folder) throws Exception {
        try (URLClassLoader loader = new URLClassLoader(new URL[] {folder.toUri().toURL()})) {
            Object compiled = loader.loadClass("ReadmeExample").getConstructor().newInstance();
            return (List<?>) ((Callable<?>) compiled).call();
        }
    }

    private static String named(Object answer) {
        return answer.equals(SrtDivider.NONE) ? "NONE" : answer.toString();
    }

    private static void delete(Path folder) throws IOException {
        try (var files = Files.list(folder)) {
            for (Path file : files.toList()) {
                Files.delete(file);
            }
        }
        Files.delete(folder);
    }
}
