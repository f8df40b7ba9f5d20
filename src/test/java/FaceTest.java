import java.io.IOException;
import java.lang.reflect.Constructor;
import java.lang.reflect.Field;
import java.lang.reflect.Method;
import java.lang.reflect.Modifier;
import java.nio.file.Files;
import java.nio.file.Path;
import java.util.HashSet;
import java.util.Set;

/** The class shows the document's public face, word by word, and nothing else; run from the project's root. */
public final class FaceTest {
    private static final Path DOCUMENT = Path.of("../shared/DOC.md");
    private static final Path PROGRAM = Path.of("src/main/java/Wordgarden.java");
    private static final String[] RULED_OUT = {
        "import ", "package ", "->", "::", "catch", "finally", "synchronized", "assert ", "protected ",
        "ArrayIndexOutOfBounds", "NullPointer", "Exact(", "System.", "static {",
    };

    private static String evened(String text) {
        return text.replaceAll("\\s+", " ");
    }

    private static int publicMembersStandAsTold(String program) throws IOException {
        String document = Files.readString(DOCUMENT);
        int begin = document.indexOf("```java") + 7;
        String face = document.substring(begin, document.indexOf("```", begin));
        int members = 0;
        for (String line : face.split("\n")) {
            String member = evened(line).trim();
            if (member.startsWith("public") && member.endsWith(";")) {
                String head = member.substring(0, member.length() - 1) + " {";
                Checks.same("the program has: " + head, program.contains(head), true);
                members++;
            }
        }
        return members;
    }

    private static void nothingElseIsShown(int members) {
        int shown = 0;
        Set<String> publicNames = new HashSet<>();
        Set<String> privateNames = new HashSet<>();
        for (Method method : Wordgarden.class.getDeclaredMethods()) {
            boolean isPublic = Modifier.isPublic(method.getModifiers());
            shown += isPublic ? 1 : 0;
            (isPublic ? publicNames : privateNames).add(method.getName());
            Checks.same(method + " is public or private",
                    isPublic || Modifier.isPrivate(method.getModifiers()), true);
        }
        for (Constructor<?> constructor : Wordgarden.class.getDeclaredConstructors()) {
            shown += Modifier.isPublic(constructor.getModifiers()) ? 1 : 0;
        }
        Checks.same("public members", shown, members);
        for (Field field : Wordgarden.class.getDeclaredFields()) {
            Checks.same(field + " is private", Modifier.isPrivate(field.getModifiers()), true);
        }
        for (Class<?> inside : Wordgarden.class.getDeclaredClasses()) {
            for (Method method : inside.getDeclaredMethods()) {
                privateNames.add(method.getName());
            }
            Checks.same(inside + " is static", Modifier.isStatic(inside.getModifiers()), true);
        }
        privateNames.retainAll(publicNames);
        Checks.same("inner methods with a public one's name", privateNames, Set.of());
    }

    public static void main(String[] arguments) throws IOException {
        String source = Files.readString(PROGRAM);
        String program = evened(source);
        nothingElseIsShown(publicMembersStandAsTold(program));
        Checks.same("the class is final", Modifier.isFinal(Wordgarden.class.getModifiers()), true);
        for (String word : RULED_OUT) {
            Checks.same("the program has '" + word + "'", source.contains(word), false);
        }
        Checks.end("FaceTest");
    }
}
