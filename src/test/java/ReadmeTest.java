import java.io.IOException;
import java.lang.reflect.Method;
import java.lang.reflect.Modifier;
import java.net.URL;
import java.net.URLClassLoader;
import java.nio.file.Files;
import java.nio.file.Path;
import java.util.ArrayList;
import java.util.List;
import java.util.regex.Matcher;
import java.util.regex.Pattern;
import java.util.stream.Stream;
import javax.tools.ToolProvider;

/** The examples of README.md: they compile, every call answers what its remark says, and no call is left out. */
public final class ReadmeTest {
    private static final Path README = Path.of("README.md");
    private static final Pattern CALL = Pattern.compile("\\s*(x\\.\\w+\\(.*?\\));\\s*// (-?\\d+|NONE|throws \\w+).*");

    private final List<String> calls = new ArrayList<>();
    private final List<String> wanted = new ArrayList<>();
    private final StringBuilder code = new StringBuilder();

    public static void main(String[] args) throws Exception {
        ReadmeTest test = new ReadmeTest();
        test.read(Files.readAllLines(README));
        test.everyCallIsShown();
        test.answersAreDue(run(test.code.toString()));
        Check.finish();
    }

    private void read(List<String> lines) {
        boolean inside = false;
        for (String line : lines) {
            if (line.startsWith("```")) {
                inside = line.equals("```java");
            } else if (inside) {
                readCode(line);
            }
        }
    }

    private void readCode(String line) {
        Matcher m = CALL.matcher(line);
        if (!m.matches()) {
            code.append(line).append('\n');
            return;
        }
        calls.add(m.group(1));
        wanted.add(m.group(2).equals("NONE") ? Integer.toString(AliasStreams.NONE) : m.group(2));
        code.append("try { got.add(String.valueOf(").append(m.group(1)).append(")); } catch (RuntimeException e) {")
            .append(" got.add(\"throws \" + e.getClass().getSimpleName()); }\n");
    }

    private void everyCallIsShown() {
        for (Method m : AliasStreams.class.getDeclaredMethods()) {
            if (Modifier.isPublic(m.getModifiers())) {
                boolean shown = code.indexOf("x." + m.getName() + "(") >= 0;
                Check.same("README.md shows " + m.getName(), Boolean.toString(shown), "true");
            }
        }
    }

    private void answersAreDue(List<?> got) {
        Check.due("README.md's answers", got.size(), wanted.size());
        for (int i = 0; i < got.size() && i < wanted.size(); i++) {
            Check.same("README.md: " + calls.get(i), got.get(i).toString(), wanted.get(i));
        }
    }

    private static List<?> run(String body) throws Exception {
        Path place = Files.createTempDirectory("readme");
        try {
            Path file = place.resolve("Example.java");
            Files.writeString(file, "public final class Example {\npublic static java.util.List<String> run() {\n"
                + "java.util.List<String> got = new java.util.ArrayList<>();\n" + body + "return got;\n}\n}\n");
            int wrong = ToolProvider.getSystemJavaCompiler().run(null, null, null, "-cp",
                System.getProperty("java.class.path"), "-d", place.toString(), file.toString());
            Check.due("README.md's examples compile with the exit code", wrong, 0);
            return wrong != 0 ? List.of() : answersOf(place);
        } finally {
            removeAll(place);
        }
    }

    private static List<?> answersOf(Path place) throws Exception {
        try (URLClassLoader loader = new URLClassLoader(new URL[] {place.toUri().toURL()})) {
            return (List<?>) loader.loadClass("Example").getMethod("run").invoke(null);
        }
    }

    private static void removeAll(Path place) throws IOException {
        try (Stream<Path> files = Files.list(place)) {
            for (Path file : files.toList()) {
                Files.delete(file);
            }
        }
        Files.delete(place);
    }
}
