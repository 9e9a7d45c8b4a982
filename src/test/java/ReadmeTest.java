import java.io.File;
import java.io.IOException;
import java.lang.reflect.InvocationTargetException;
import java.net.URL;
import java.net.URLClassLoader;
import java.nio.file.Files;
import java.nio.file.Path;
import java.util.ArrayList;
import java.util.Comparator;
import java.util.List;
import java.util.regex.Matcher;
import java.util.regex.Pattern;
import java.util.stream.Stream;
import javax.tools.ToolProvider;

/**
 * Runs the example of README.md, taken from there, and compares the answers with those that it tells;
 * and looks whether README.md names what there is.
 */
final class ReadmeTest {
    private static final Checks checks = new Checks();
    /** A call, and behind it a comment that begins with its answer and a colon. */
    private static final Pattern TOLD = Pattern.compile("(planner\\.\\w+\\(.*\\));\\s*// (-?\\d+): .+");

    public static void main(String[] args) throws IOException, ReflectiveOperationException {
        String readme = Files.readString(Path.of("README.md"));
        exampleAnswersWhatItTells(readme);
        filesAndTestsAreThere(readme);
        checks.finish();
    }

    private static void exampleAnswersWhatItTells(String readme) throws IOException, ReflectiveOperationException {
        List<String> calls = new ArrayList<>();
        List<Integer> due = new ArrayList<>();
        StringBuilder program = new StringBuilder("public final class ReadmeExample {\n"
            + "public static java.util.List<Integer> answers() {\n"
            + "java.util.List<Integer> answers = new java.util.ArrayList<>();\n");
        for (String line : example(readme)) {
            Matcher told = TOLD.matcher(line);
            if (told.matches()) {
                calls.add(told.group(1));
                due.add(Integer.valueOf(told.group(2)));
                program.append("answers.add(").append(told.group(1)).append(");\n");
            } else {
                program.append(line).append('\n');
            }
        }
        List<?> answers = run(program.append("return answers;\n}\n}\n").toString());
        checks.due("README.md: answers", answers.size(), due.size());
        for (int k = 0; k < answers.size() && k < due.size(); k++) {
            checks.same("README.md: " + calls.get(k), answers.get(k), due.get(k));
        }
        checks.due("README.md has an example of ten calls or more", due.size() >= 10 ? 1 : 0, 1);
    }

    /** The lines between the marks of a block of Java. */
    private static List<String> example(String readme) {
        List<String> lines = readme.lines().toList();
        int from = lines.indexOf("```java") + 1;
        int length = lines.subList(from, lines.size()).indexOf("```");
        checks.due("README.md has a block of Java", from > 0 && length > 0 ? 1 : 0, 1);
        return lines.subList(from, from + Math.max(length, 0));
    }

    private static List<?> run(String program) throws IOException, ReflectiveOperationException {
        Path folder = Files.createTempDirectory("readme");
        try {
            Path source = Files.writeString(folder.resolve("ReadmeExample.java"), program);
            int result = ToolProvider.getSystemJavaCompiler().run(null, null, null, "-proc:none",
                "-cp", System.getProperty("java.class.path"), "-d", folder.toString(), source.toString());
            checks.due("README.md: the example compiles", result, 0);
            return result == 0 ? answers(folder) : List.of();
        } finally {
            delete(folder);
        }
    }

    private static List<?> answers(Path folder) throws IOException, ReflectiveOperationException {
        try (URLClassLoader loader = new URLClassLoader(new URL[] {folder.toUri().toURL()})) {
            return (List<?>) loader.loadClass("ReadmeExample").getMethod("answers").invoke(null);
        } catch (InvocationTargetException e) {
            checks.same("README.md: the example ends", e.getCause(), "without an exception");
            return List.of();
        }
    }

    private static void delete(Path folder) throws IOException {
        try (Stream<Path> files = Files.walk(folder)) {
            files.sorted(Comparator.reverseOrder()).map(Path::toFile).forEach(File::delete);
        }
    }

    private static void filesAndTestsAreThere(String readme) {
        for (String path : List.of(".ci/run", "src/main/java/NestingPlanner.java", "src/test/java",
                "../shared/DOC.md", "../shared/LANGUAGE.md", "../shared/tests", "NOTES.md")) {
            checks.due("README.md names " + path, readme.contains(path) ? 1 : 0, 1);
            checks.due(path + " is there", new File(path).exists() ? 1 : 0, 1);
        }
        checks.due(".ci/run can be run", new File(".ci/run").canExecute() ? 1 : 0, 1);
        Matcher tests = Pattern.compile("(?<![*\\w])[A-Z]\\w+Test\\b").matcher(readme);
        while (tests.find()) {
            String test = "src/test/java/" + tests.group() + ".java";
            checks.due(test + " is there", new File(test).exists() ? 1 : 0, 1);
        }
    }
}
