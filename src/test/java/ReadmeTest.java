import java.io.IOException;
import java.lang.reflect.InvocationTargetException;
import java.lang.reflect.Method;
import java.lang.reflect.Modifier;
import java.nio.file.Files;
import java.nio.file.Path;
import java.util.ArrayList;
import java.util.HashSet;
import java.util.List;
import java.util.Set;
import java.util.regex.Matcher;
import java.util.regex.Pattern;

/** The example of README.md answers what it tells, and the page names every method; run from the project's root. */
public final class ReadmeTest {
    private static final Path PAGE = Path.of("README.md");
    private static final String EXAMPLE_BEGIN = "```java\n";
    private static final String EXAMPLE_END = "```";
    private static final String MAKING = "Wordgarden garden = new Wordgarden();";
    private static final Pattern CALL = Pattern.compile(
            "garden\\.(?<name>\\w+)\\((?<arguments>[^)]*)\\); +// (?<due>(answers|throws) [^:]+)(: .+)?");

    /** The lines of the example behind the one that makes the garden. */
    private static List<String> callsOf(String page) {
        int begin = page.indexOf(EXAMPLE_BEGIN);
        Checks.same("the page has an example", begin >= 0, true);
        int from = begin + EXAMPLE_BEGIN.length();
        String[] lines = page.substring(from, page.indexOf(EXAMPLE_END, from)).split("\n");
        Checks.same("the example's first line", lines[0], MAKING);
        return List.of(lines).subList(1, lines.length);
    }

    private static List<Method> face() {
        List<Method> face = new ArrayList<>();
        for (Method method : Wordgarden.class.getDeclaredMethods()) {
            if (Modifier.isPublic(method.getModifiers())) {
                face.add(method);
            }
        }
        return face;
    }

    private static Method methodNamed(String name) {
        for (Method method : face()) {
            if (method.getName().equals(name)) {
                return method;
            }
        }
        throw new AssertionError("the example calls " + name + ", which is not there");
    }

    private static Object[] valuesOf(String arguments, Method method) {
        Class<?>[] types = method.getParameterTypes();
        String[] texts = arguments.isEmpty() ? new String[0] : arguments.split(", ");
        Checks.same("how many arguments " + method.getName() + " has", texts.length, types.length);
        Object[] values = new Object[texts.length];
        for (int place = 0; place < texts.length; place++) {
            boolean isNumber = types[place] == int.class;
            values[place] = isNumber ? (Object) Integer.valueOf(texts[place]) : Boolean.valueOf(texts[place]);
        }
        return values;
    }

    /** What the call does, as the page writes it: answers "ab", or throws with the exception's name. */
    private static String told(Wordgarden garden, String name, String arguments) throws IllegalAccessException {
        Method method = methodNamed(name);
        try {
            Object answer = method.invoke(garden, valuesOf(arguments, method));
            return "answers " + (answer instanceof String ? "\"" + answer + "\"" : answer);
        } catch (InvocationTargetException e) {
            return "throws " + e.getCause().getClass().getSimpleName();
        }
    }

    private static void exampleAnswersAsTold(String page) throws IllegalAccessException {
        Wordgarden garden = new Wordgarden();
        Set<String> kinds = new HashSet<>();
        for (String line : callsOf(page)) {
            Matcher call = CALL.matcher(line);
            boolean isCall = call.matches();
            Checks.same("a call with its answer: " + line, isCall, true);
            if (isCall) {
                Checks.same(line, told(garden, call.group("name"), call.group("arguments")), call.group("due"));
                kinds.add(call.group("due").split(" ")[0]);
            }
        }
        Checks.same("what the example shows", kinds, Set.of("answers", "throws"));
    }

    private static void pageNamesEveryMethod(String page) {
        for (Method method : face()) {
            Checks.same("the page names " + method.getName(), page.contains("`" + method.getName() + "`"), true);
        }
    }

    public static void main(String[] arguments) throws IOException, IllegalAccessException {
        String page = Files.readString(PAGE);
        exampleAnswersAsTold(page);
        pageNamesEveryMethod(page);
        Checks.end("ReadmeTest");
    }
}
