import java.io.IOException;
import java.lang.reflect.Method;
import java.lang.reflect.Modifier;
import java.net.URL;
import java.net.URLClassLoader;
import java.nio.file.Files;
import java.nio.file.Path;
import java.util.List;
import java.util.regex.Matcher;
import java.util.regex.Pattern;
import javax.tools.ToolProvider;

/**
 * The calls that README.md shows can be copied as they stand, and give the answers that their
 * comments begin with: the lines are put into a class, which is compiled and run.
 */
public final class ReadmeTest {
    private static final Check CHECK = new Check("ReadmeTest");
    private static final Path README = Path.of("README.md");
    private static final Pattern BLOCK = Pattern.compile("```java\n(.*?)```", Pattern.DOTALL);
    private static final Pattern CALL =
        Pattern.compile("(\\w[\\w.]*\\(.*\\)); +// (throws \\w+|\".*\"|[-\\w.]+)(: .*)?");
    private static final String FRAME = """
        import java.util.ArrayList;
        import java.util.List;
        import java.util.function.Supplier;

        public final class ReadmeCalls {
            public static final List<String[]> TOLD = new ArrayList<>();

            static void ask(String call, Supplier<Object> answer, String due) {
                String got;
                try {
                    Object value = answer.get();
                    got = value instanceof String ? '"' + (String) value + '"' : "" + value;
                } catch (RuntimeException e) {
                    got = "throws " + e.getClass().getSimpleName();
                }
                TOLD.add(new String[] {call, got, due});
            }
        """;

    public static void main(String[] args) throws Exception {
        String source = FRAME + methodsOf(Files.readString(README)) + "}\n";
        List<?> told = told(source);
        CHECK.yes("many calls", told.size() > 100);
        for (Object entry : told) {
            String[] words = (String[]) entry;
            CHECK.same(words[0], words[1], words[2]);
        }
        everyMethodIsShown(source);
        CHECK.end();
    }

    private static void everyMethodIsShown(String source) {
        for (Method method : ResolutionProver.class.getDeclaredMethods()) {
            if (Modifier.isPublic(method.getModifiers())) {
                CHECK.yes("README.md shows " + method.getName(),
                    source.contains("x." + method.getName() + "("));
            }
        }
    }

    /** The blocks with methods as they stand, and each other block as a method of its own. */
    private static String methodsOf(String readme) {
        StringBuilder methods = new StringBuilder();
        StringBuilder runs = new StringBuilder();
        Matcher block = BLOCK.matcher(readme);
        for (int number = 1; block.find(); number++) {
            String lines = block.group(1);
            if (lines.startsWith("static ")) {
                methods.append(lines);
            } else {
                methods.append("static void block").append(number).append("() {\n")
                    .append(asked(lines)).append("}\n");
                runs.append("block").append(number).append("();\n");
            }
        }
        return methods + "public static void run() {\n" + runs + "}\n";
    }

    /** Each line that is not the making of an object or a text must be a call with its answer. */
    private static String asked(String lines) {
        StringBuilder text = new StringBuilder();
        for (String line : lines.split("\n")) {
            Matcher call = CALL.matcher(line);
            if (line.equals("ResolutionProver x = new ResolutionProver();")
                || line.startsWith("put(x, ")) {
                text.append(line).append('\n');
            } else if (call.matches()) {
                text.append("ask(").append(quoted(call.group(1))).append(", () -> ")
                    .append(call.group(1)).append(", ").append(quoted(call.group(2)))
                    .append(");\n");
            } else {
                CHECK.tell("README.md shows no call with its answer in \"" + line + "\"");
            }
        }
        return text.toString();
    }

    private static String quoted(String text) {
        return '"' + text.replace("\\", "\\\\").replace("\"", "\\\"") + '"';
    }

    private static List<?> told(String source) throws IOException, ReflectiveOperationException {
        Path folder = Files.createTempDirectory("readme");
        Path file = folder.resolve("ReadmeCalls.java");
        Files.writeString(file, source);
        int code = ToolProvider.getSystemJavaCompiler().run(null, null, null,
            "-cp", System.getProperty("java.class.path"), "-d", folder.toString(), file.toString());
        CHECK.equal("the compiler", code, 0);
        try (URLClassLoader loader = new URLClassLoader(new URL[] {folder.toUri().toURL()})) {
            Class<?> calls = loader.loadClass("ReadmeCalls");
            calls.getMethod("run").invoke(null);
            return (List<?>) calls.getField("TOLD").get(null);
        } finally {
            for (Path made : Files.list(folder).toList()) {
                Files.delete(made);
            }
            Files.delete(folder);
        }
    }
}
