import java.io.IOException;
import java.lang.reflect.Field;
import java.lang.reflect.Method;
import java.lang.reflect.Modifier;
import java.net.URL;
import java.net.URLClassLoader;
import java.nio.file.DirectoryStream;
import java.nio.file.Files;
import java.nio.file.Path;
import java.util.List;
import java.util.regex.Matcher;
import java.util.regex.Pattern;
import javax.tools.ToolProvider;

/** README.md: its example answers what its comments say, and it names every call, constant and test. */
public final class ReadmeTest {
    private static final Path README = Path.of("README.md");
    private static final Path TESTS = Path.of("src/test/java");
    private static final Pattern ANSWERED = Pattern.compile("(?:int \\w+ = )?(.+);\\s+// (-?\\w+)(?:: .*)?");
    private static int wrong = 0;
    private static int answered = 0;

    public static void main(String[] args) throws IOException, ReflectiveOperationException {
        List<String> lines = Files.readAllLines(README);
        String page = String.join("\n", lines);
        namesTheFace(page);
        namesTheTests(page);
        int first = lines.indexOf("```java") + 1;
        runExample(lines.subList(first, first + lines.subList(first, lines.size()).indexOf("```")));
        due(answered > 0, "the example has no answers");
        System.out.println(wrong == 0 ? "the page is as due" : wrong + " parts of the page are not as due");
        if (wrong != 0) {
            System.exit(1);
        }
    }

    private static void due(boolean holds, String fault) {
        if (!holds) {
            wrong++;
            System.out.println("README.md: " + fault);
        }
    }

    // The compiled example calls this for each of its lines that has an answer in its comment.
    public static void answer(String call, Object got, String want) {
        answered++;
        due(String.valueOf(got).equals(want), call + " answers " + got + ", the page says " + want);
    }

    private static void namesTheFace(String page) throws IllegalAccessException {
        for (Method method : ClosureDesk.class.getDeclaredMethods()) {
            boolean seen = Modifier.isPublic(method.getModifiers());
            due(!seen || page.contains("| `" + method.getName() + "("), "its table has no row for " + method.getName());
        }
        for (Field field : ClosureDesk.class.getFields()) {
            String words = "`" + field.getName() + "` is " + field.get(null);
            due(page.contains(words), "it does not say " + words);
        }
    }

    private static void namesTheTests(String page) throws IOException {
        due(page.contains("    .ci/run\n"), "it does not say how to run the tests");
        try (DirectoryStream<Path> tests = Files.newDirectoryStream(TESTS, "*.java")) {
            for (Path test : tests) {
                String name = test.getFileName().toString().replace(".java", "");
                due(page.contains("- `" + name + "`: "), "it does not name " + name);
            }
        }
    }

    private static void runExample(List<String> example) throws IOException, ReflectiveOperationException {
        Path folder = Files.createTempDirectory("readme");
        Path source = folder.resolve("Example.java");
        Path compiled = folder.resolve("Example.class");
        Files.writeString(source, "public final class Example {\n  public static void run() {\n"
            + withAnswers(example) + "  }\n}\n");
        String path = System.getProperty("java.class.path");
        int failed = ToolProvider.getSystemJavaCompiler().run(
            null, null, null, "-cp", path, "-d", folder.toString(), source.toString());
        due(failed == 0, "its example does not compile");
        if (failed == 0) {
            try (URLClassLoader loader = new URLClassLoader(new URL[] {folder.toUri().toURL()})) {
                loader.loadClass("Example").getMethod("run").invoke(null);
            }
        }
        Files.deleteIfExists(compiled);
        Files.delete(source);
        Files.delete(folder);
    }

    // A line that declares a name is kept as it is and its name is asked; of the others the call itself.
    private static String withAnswers(List<String> example) {
        StringBuilder body = new StringBuilder();
        for (String line : example) {
            Matcher matcher = ANSWERED.matcher(line);
            if (!matcher.matches()) {
                body.append(line).append('\n');
                due(!line.contains("//"), "no answer in the comment of: " + line);
                continue;
            }
            String call = matcher.group(1);
            boolean declares = line.startsWith("int ");
            String asked = declares ? line.split(" ")[1] : call;
            body.append(declares ? line : "").append('\n');
            body.append("    ReadmeTest.answer(\"" + call + "\", " + asked + ", \"" + matcher.group(2) + "\");\n");
        }
        return body.toString();
    }
}
