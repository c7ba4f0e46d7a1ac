import java.io.IOException;
import java.lang.reflect.Method;
import java.net.URL;
import java.net.URLClassLoader;
import java.nio.file.Files;
import java.nio.file.Path;
import java.util.ArrayList;
import java.util.List;
import java.util.regex.Matcher;
import java.util.regex.Pattern;
import javax.tools.ToolProvider;

/** README.md's Java answers as its comments say, and README.md names each test. */
final class ReadmeTest {
    private static final Path README = Path.of("README.md");
    private static final Path TESTS = Path.of("src/test/java");
    private static final Pattern EXAMPLE = Pattern.compile("```java\n(.*?)```", Pattern.DOTALL);
    /** A line that tells an answer: int name = call; // answer: why. */
    private static final Pattern TOLD = Pattern.compile("int (\\w+) = rota\\..*; +// (-?\\d+)\\b.*");
    private static final int LEAST_TOLD = 5;

    private final List<String> faults = new ArrayList<>();
    private int asked;

    public static void main(String[] args) throws IOException, ReflectiveOperationException {
        ReadmeTest test = new ReadmeTest();
        String readme = Files.readString(README);
        test.lookAtExamples(readme);
        test.lookAtNames(readme);
        for (String fault : test.faults) {
            System.out.println("README.md: " + fault);
        }
        System.out.println("readme: " + test.asked + " answers and names, " + test.faults.size() + " wrong");
        if (!test.faults.isEmpty()) {
            System.exit(1);
        }
    }

    private void must(boolean so, String what) {
        asked++;
        if (!so) {
            faults.add(what);
        }
    }

    private void lookAtExamples(String readme) throws IOException, ReflectiveOperationException {
        List<String> names = new ArrayList<>();
        List<Integer> due = new ArrayList<>();
        StringBuilder body = new StringBuilder();
        Matcher examples = EXAMPLE.matcher(readme);
        while (examples.find()) {
            for (String line : examples.group(1).split("\n")) {
                body.append(line).append('\n');
                Matcher told = TOLD.matcher(line);
                if (told.matches()) {
                    names.add(told.group(1));
                    due.add(Integer.valueOf(told.group(2)));
                }
            }
        }
        must(names.size() >= LEAST_TOLD, "its Java tells only " + names.size() + " answers");
        int[] got = run(body + "return new int[] {" + String.join(", ", names) + "};\n");
        for (int i = 0; i < got.length; i++) {
            must(got[i] == due.get(i), names.get(i) + " is " + got[i] + ", told is " + due.get(i));
        }
    }

    private int[] run(String body) throws IOException, ReflectiveOperationException {
        Path out = Files.createTempDirectory("readme");
        Path source = out.resolve("Example.java");
        Files.writeString(source, "public class Example {\npublic static int[] answers() {\n" + body + "}\n}\n");
        int exit = ToolProvider.getSystemJavaCompiler().run(null, System.out, System.out, "-cp",
                System.getProperty("java.class.path"), "-d", out.toString(), source.toString());
        must(exit == 0, "its Java does not compile");
        int[] answers = exit == 0 ? answers(out) : new int[0];
        try (var made = Files.newDirectoryStream(out)) {
            for (Path file : made) {
                Files.delete(file);
            }
        }
        Files.delete(out);
        return answers;
    }

    private static int[] answers(Path out) throws IOException, ReflectiveOperationException {
        try (URLClassLoader loader = new URLClassLoader(new URL[] {out.toUri().toURL()})) {
            Method method = loader.loadClass("Example").getMethod("answers");
            return (int[]) method.invoke(null);
        }
    }

    private void lookAtNames(String readme) throws IOException {
        try (var files = Files.newDirectoryStream(TESTS, "*Test.java")) {
            for (Path file : files) {
                String name = file.getFileName().toString().replace(".java", "");
                must(readme.contains("`" + name), name + " is not named");
            }
        }
    }
}
