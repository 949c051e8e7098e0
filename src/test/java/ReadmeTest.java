import java.io.File;
import java.io.IOException;
import java.lang.reflect.Method;
import java.lang.reflect.Modifier;
import java.net.URL;
import java.net.URLClassLoader;
import java.nio.file.Files;
import java.nio.file.Path;
import java.util.ArrayList;
import java.util.List;
import java.util.regex.MatchResult;
import java.util.regex.Matcher;
import java.util.regex.Pattern;
import java.util.stream.Stream;
import javax.tools.ToolProvider;

/** README.md: its example compiles and answers what the page says; it names every call of the face and every test. */
public final class ReadmeTest {
    private static final Pattern EXAMPLE = Pattern.compile("```java\n(.*?)```", Pattern.DOTALL);
    private static final Pattern ANSWERED = Pattern.compile("(wall\\.\\w+\\([^;]*\\)); *// (-?\\d+)\\b");

    public static void main(String[] args) throws Exception {
        String page = Files.readString(Path.of("README.md"));
        example(page);
        calls(page);
        tests(page);
        Check.end();
    }

    private static void example(String page) throws Exception {
        Matcher block = EXAMPLE.matcher(page);
        Check.that("README.md has an example", block.find());
        String code = block.group(1);
        List<MatchResult> told = ANSWERED.matcher(code).results().toList();
        Check.that("the example tells answers", told.size() > 5);
        List<Long> answers = answersOf(ANSWERED.matcher(code).replaceAll("answers.add((long) $1); //"));
        Check.due("answers of the example", answers.size(), told.size());
        for (int i = 0; i < Math.min(told.size(), answers.size()); i++) {
            Check.due("README.md: " + told.get(i).group(1), answers.get(i), Long.parseLong(told.get(i).group(2)));
        }
    }

    private static List<Long> answersOf(String code) throws Exception {
        Path folder = Files.createTempDirectory("readme");
        try {
            return compiledAndRun(folder, code);
        } finally {
            remove(folder);
        }
    }

    private static List<Long> compiledAndRun(Path folder, String code) throws Exception {
        List<Long> answers = new ArrayList<>();
        Path file = folder.resolve("Example.java");
        Files.writeString(file, "public class Example { public static void go(java.util.List<Long> answers) {\n" + code + "} }\n");
        String classes = System.getProperty("java.class.path");
        int exit = ToolProvider.getSystemJavaCompiler()
            .run(null, null, null, "-cp", classes, "-d", folder.toString(), file.toString());
        Check.due("the example compiles", exit, 0);
        try (URLClassLoader loader = new URLClassLoader(new URL[] {folder.toUri().toURL()})) {
            loader.loadClass("Example").getMethod("go", List.class).invoke(null, answers);
        }
        return answers;
    }

    private static void remove(Path folder) throws IOException {
        File[] files = folder.toFile().listFiles();
        for (File file : files == null ? new File[0] : files) {
            Files.delete(file.toPath());
        }
        Files.delete(folder);
    }

    private static void calls(String page) {
        for (Method method : StencilWall.class.getDeclaredMethods()) {
            if (Modifier.isPublic(method.getModifiers())) {
                Check.that("README.md names " + method.getName(), page.contains("`" + method.getName() + "("));
            }
        }
    }

    private static void tests(String page) throws IOException {
        Check.that("README.md says how to run the tests", page.contains(".ci/run"));
        try (Stream<Path> files = Files.list(Path.of("src/test/java"))) {
            files.map(file -> file.getFileName().toString().replace(".java", ""))
                .filter(name -> name.endsWith("Test"))
                .forEach(name -> Check.that("README.md names " + name, page.contains("| " + name + " |")));
        }
        Matcher named = Pattern.compile("\\| (\\w+Test) \\|").matcher(page);
        while (named.find()) {
            Check.that(named.group(1) + " exists", Files.exists(Path.of("src/test/java", named.group(1) + ".java")));
        }
    }
}
