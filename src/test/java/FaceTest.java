import java.io.IOException;
import java.lang.reflect.Constructor;
import java.lang.reflect.Executable;
import java.lang.reflect.Field;
import java.lang.reflect.Method;
import java.lang.reflect.Modifier;
import java.nio.file.Files;
import java.nio.file.Path;
import java.util.ArrayList;
import java.util.Arrays;
import java.util.HashSet;
import java.util.List;
import java.util.Set;
import java.util.TreeSet;

/** The class shows the document's public face and nothing else, and each promise has tests; run from the project's root. */
public final class FaceTest {
    private static final Path DOCUMENT = Path.of("../shared/DOC.md");
    private static final Path PROGRAM = Path.of("src/main/java/Wordgarden.java");
    /** Of what LANGUAGE.md rules out, what a text can be searched for. */
    private static final String[] RULED_OUT = {
        "package ", "::", "finally", "synchronized", "assert ", "protected ", "ArrayIndexOutOfBounds", "NullPointer",
        "ClassCast", "NegativeArraySize", "ArrayStore", "Exact(", "static {", "Random", "currentTimeMillis", "nanoTime",
    };
    private static final Class<?>[] SENTENCE_TESTS = {
        WordSentencesTest.class, TurningSentencesTest.class, LayingSentencesTest.class, GrowthSentencesTest.class,
        AskingSentencesTest.class, WholeSentencesTest.class,
    };
    private static final int PROMISES = 48;

    private static String evened(String text) {
        return text.replaceAll("\\s+", " ").trim();
    }

    /** The document's members, without the names of parameters: int write(int, int) throws .. */
    private static Set<String> membersOfDocument() throws IOException {
        String document = Files.readString(DOCUMENT);
        int begin = document.indexOf("```java") + "```java".length();
        Set<String> members = new TreeSet<>();
        for (String line : document.substring(begin, document.indexOf("```", begin)).split("\n")) {
            String member = evened(line);
            if (member.startsWith("public") && member.endsWith(";")) {
                String bare = member.substring("public ".length(), member.length() - 1);
                members.add(bare.replaceAll("(int|boolean|long|String) \\w+([,)])", "$1$2"));
            }
        }
        return members;
    }

    private static String names(Class<?>[] types) {
        List<String> names = new ArrayList<>();
        for (Class<?> type : types) {
            names.add(type.getSimpleName());
        }
        return String.join(", ", names);
    }

    private static String shown(String head, Executable member) {
        Class<?>[] thrown = member.getExceptionTypes();
        return head + "(" + names(member.getParameterTypes()) + ")" + (thrown.length == 0 ? "" : " throws " + names(thrown));
    }

    private static Set<String> membersOfClass() {
        Set<String> members = new TreeSet<>();
        for (Constructor<?> constructor : Wordgarden.class.getDeclaredConstructors()) {
            Checks.same(constructor + " is public", Modifier.isPublic(constructor.getModifiers()), true);
            members.add(shown("Wordgarden", constructor));
        }
        for (Method method : Wordgarden.class.getDeclaredMethods()) {
            if (Modifier.isPublic(method.getModifiers())) {
                members.add(shown(method.getReturnType().getSimpleName() + " " + method.getName(), method));
            }
        }
        return members;
    }

    private static void nothingElseIsShown() {
        Set<String> publicNames = new HashSet<>();
        Set<String> privateNames = new HashSet<>();
        for (Method method : Wordgarden.class.getDeclaredMethods()) {
            boolean isPublic = Modifier.isPublic(method.getModifiers());
            (isPublic ? publicNames : privateNames).add(method.getName());
            Checks.same(method + " is public or private",
                    isPublic || Modifier.isPrivate(method.getModifiers()) || method.isSynthetic(), true);
        }
        for (Field field : Wordgarden.class.getDeclaredFields()) {
            boolean isHidden = Modifier.isPrivate(field.getModifiers()) || field.isSynthetic();
            Checks.same(field + " is private", isHidden, true);
            boolean isFixed = !Modifier.isStatic(field.getModifiers()) || Modifier.isFinal(field.getModifiers());
            Checks.same(field + " is final if static", isFixed, true);
        }
        for (Class<?> inside : Wordgarden.class.getDeclaredClasses()) {
            int kind = inside.getModifiers();
            Checks.same(inside + " is not shown", Modifier.isPublic(kind) || Modifier.isProtected(kind), false);
        }
        privateNames.retainAll(publicNames);
        Checks.same("private methods with a public one's name", privateNames, Set.of());
    }

    private static void eachPromiseHasSentences() {
        Set<String> found = new TreeSet<>();
        for (Class<?> tests : SENTENCE_TESTS) {
            for (Method test : Sentences.testsOf(tests)) {
                found.add(test.getName().substring(1, 3));
            }
        }
        Set<String> due = new TreeSet<>();
        for (int promise = 1; promise <= PROMISES; promise++) {
            due.add(String.format("%02d", promise));
        }
        Checks.same("promises with tests of their sentences", found, due);
    }

    private static void documentHasJustThesePromises() throws IOException {
        int headings = 0;
        for (String line : Files.readAllLines(DOCUMENT)) {
            headings += line.startsWith("## Promise ") ? 1 : 0;
        }
        Checks.same("promises of the document", headings, PROMISES);
    }

    public static void main(String[] arguments) throws IOException {
        Checks.same("the public face", membersOfClass(), membersOfDocument());
        nothingElseIsShown();
        Checks.same("the class is final", Modifier.isFinal(Wordgarden.class.getModifiers()), true);
        Checks.same("the class is public", Modifier.isPublic(Wordgarden.class.getModifiers()), true);
        Checks.same("the class has no class above it", Wordgarden.class.getSuperclass(), Object.class);
        Checks.same("the class has no interface", Arrays.asList(Wordgarden.class.getInterfaces()), List.of());
        String source = Files.readString(PROGRAM);
        for (String word : RULED_OUT) {
            Checks.same("the program has '" + word + "'", source.contains(word), false);
        }
        eachPromiseHasSentences();
        documentHasJustThesePromises();
        Checks.end("FaceTest");
    }
}
