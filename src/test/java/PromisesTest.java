import java.io.IOException;
import java.lang.reflect.Method;
import java.nio.file.Files;
import java.nio.file.Path;
import java.util.regex.Matcher;
import java.util.regex.Pattern;

/** Each promise of the document has tests of its edges that are named after it. */
public final class PromisesTest {
    private static final Check CHECK = new Check("PromisesTest");
    private static final Path DOCUMENT = Path.of("../shared/DOC.md");
    private static final Class<?>[] TESTS = {BoundsOfInputTest.class, BoundsOfTextTest.class,
        BoundsOfClausesTest.class, BoundsOfResolutionTest.class, BoundsOfModelsTest.class,
        BoundsOfChangesTest.class, BoundsOfOutputTest.class};

    public static void main(String[] args) throws IOException {
        Matcher heading =
            Pattern.compile("## Promise (\\d+): (.+)").matcher(Files.readString(DOCUMENT));
        int found = 0;
        while (heading.find()) {
            found++;
            CHECK.equal("the number of a promise", Integer.parseInt(heading.group(1)), found);
            String name = "promise" + found + joined(heading.group(2));
            CHECK.yes("a test of " + name, hasTest(found, name));
        }
        CHECK.equal("promises", found, 65);
        CHECK.end();
    }

    /** The words of a heading in one: "A new object" becomes "ANewObject". */
    private static String joined(String heading) {
        StringBuilder text = new StringBuilder();
        for (String word : heading.trim().split(" ")) {
            text.append(Character.toUpperCase(word.charAt(0))).append(word.substring(1));
        }
        return text.toString();
    }

    private static boolean hasTest(int promise, String name) {
        for (Class<?> test : TESTS) {
            for (Method method : test.getDeclaredMethods()) {
                if (Check.promiseOf(method) == promise && method.getName().startsWith(name)) {
                    return true;
                }
            }
        }
        return false;
    }
}
