import java.io.IOException;
import java.lang.reflect.Field;
import java.lang.reflect.Member;
import java.lang.reflect.Method;
import java.lang.reflect.Modifier;
import java.nio.file.Files;
import java.nio.file.Path;
import java.util.ArrayList;
import java.util.Collections;
import java.util.HashSet;
import java.util.List;
import java.util.Set;
import java.util.regex.Matcher;
import java.util.regex.Pattern;

/** The face is that of the document (rule 1 of LANGUAGE.md). */
public final class FaceTest {
    private static final Check CHECK = new Check("FaceTest");
    private static final Path SOURCE = Path.of("src/main/java/ResolutionProver.java");
    private static final Path DOCUMENT = Path.of("../shared/DOC.md");

    public static void main(String[] args) throws IOException {
        signatures();
        members();
        CHECK.end();
    }

    /** The lines of the face in the document, against those of the source without their bodies. */
    private static void signatures() throws IOException {
        String document = Files.readString(DOCUMENT);
        int start = document.indexOf("```java");
        String face = document.substring(start, document.indexOf("```", start + 3));
        String source = Files.readString(SOURCE).replaceAll("\\s+", " ");
        Matcher matcher = Pattern.compile("    public ([^;=]*)[;=]").matcher(face);
        int found = 0;
        while (matcher.find()) {
            String signature = "public " + matcher.group(1).trim();
            CHECK.yes("the source has " + signature,
                source.contains(signature + " {") || source.contains(signature + " ="));
            found++;
        }
        CHECK.equal("lines of the face", found, 66);
    }

    private static void members() {
        CHECK.yes("the class is final", Modifier.isFinal(ResolutionProver.class.getModifiers()));
        Set<String> shown = new HashSet<>();
        List<Member> all = new ArrayList<>();
        Collections.addAll(all, ResolutionProver.class.getDeclaredMethods());
        Collections.addAll(all, ResolutionProver.class.getDeclaredFields());
        Collections.addAll(all, ResolutionProver.class.getDeclaredConstructors());
        int isPublic = 0;
        for (Member member : all) {
            int modifiers = member.getModifiers();
            CHECK.yes(member + " is public or private", member.isSynthetic()
                || Modifier.isPublic(modifiers) || Modifier.isPrivate(modifiers));
            if (Modifier.isPublic(modifiers)) {
                isPublic++;
                shown.add(member.getName());
            }
        }
        CHECK.equal("public members", isPublic, 66);
        for (Class<?> inside : ResolutionProver.class.getDeclaredClasses()) {
            CHECK.yes(inside + " is static", Modifier.isStatic(inside.getModifiers()));
            CHECK.no(inside + " is public", Modifier.isPublic(inside.getModifiers()));
            for (Method method : inside.getDeclaredMethods()) {
                CHECK.no(method + " bears a name of the face", shown.contains(method.getName()));
            }
            CHECK.yes(inside + " has some twenty fields", inside.getDeclaredFields().length <= 20);
        }
        for (Field field : ResolutionProver.class.getDeclaredFields()) {
            CHECK.yes(field + " is final", Modifier.isFinal(field.getModifiers()));
        }
    }
}
