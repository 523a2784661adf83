import java.io.IOException;
import java.lang.reflect.Field;
import java.lang.reflect.Method;
import java.lang.reflect.Modifier;
import java.nio.file.Files;
import java.nio.file.Path;
import java.util.Set;
import java.util.TreeSet;
import java.util.function.Function;
import java.util.regex.MatchResult;
import java.util.regex.Pattern;
import java.util.stream.Collectors;
import java.util.stream.Stream;

/** README.md is there, says how to use the class and how to run its tests, and what it says is so. */
public final class ReadmeTest {
    private static final Path README = Path.of("README.md");
    private static final Pattern EXAMPLE = Pattern.compile("```java\n(.*?)```", Pattern.DOTALL);
    private static final Pattern NEW_OBJECT = Pattern.compile("PhaseBook book = new PhaseBook\\((\\d+), (\\d+)\\);.*");
    private static final Pattern CALL = Pattern.compile("book\\.(\\w+)\\(([^)]*)\\); +// (\\S+): \\S.*");
    private static final Pattern SIGNATURE = Pattern.compile("`(\\w+)\\(([^)]*)\\)`");
    private static final Pattern CONSTANT = Pattern.compile("`([A-Z]+)`\\s\\((-?\\d+):");
    private static final Pattern TEST = Pattern.compile("`(\\w+Test)`");

    public static void main(String[] args) throws IOException, ReflectiveOperationException {
        Check.due("README.md is there", Files.isRegularFile(README), true);
        if (Files.isRegularFile(README)) {
            String text = Files.readString(README);
            String use = partOf(text, "Use");
            exampleAnswersAsItTells(use);
            useTellsEachMethod(use);
            useTellsEachConstant(use);
            testsSayHowToRunThem(partOf(text, "Tests"));
        }
        Check.end("ReadmeTest");
    }

    /** From a heading to the next one; empty if there is no such heading. */
    private static String partOf(String text, String heading) {
        for (String part : text.split("(?m)^## ")) {
            if (part.startsWith(heading + "\n")) {
                return part;
            }
        }
        return "";
    }

    private static Set<String> found(Pattern pattern, String text, Function<MatchResult, String> as) {
        return pattern.matcher(text).results().map(as).collect(Collectors.toCollection(TreeSet::new));
    }

    private static void exampleAnswersAsItTells(String use) throws ReflectiveOperationException {
        String example = EXAMPLE.matcher(use).results().map(m -> m.group(1)).findFirst().orElse("");
        PhaseBook book = null;
        Set<String> called = new TreeSet<>();
        for (String line : example.split("\n")) {
            MatchResult made = whole(NEW_OBJECT, line);
            MatchResult call = whole(CALL, line);
            Check.due("the example's line is an object or a call with its answer: " + line,
                made != null || call != null && book != null, true);
            if (made != null) {
                book = new PhaseBook(Integer.parseInt(made.group(1)), Integer.parseInt(made.group(2)));
            } else if (call != null && book != null) {
                called.add(call.group(1));
                Object got = answerOf(book, call.group(1), call.group(2));
                Check.due("(the answer is " + got + ") " + line, got.toString().equals(call.group(3)), true);
            }
        }
        Set<String> methods = faceMethods().map(Method::getName).collect(Collectors.toCollection(TreeSet::new));
        Check.due("the example calls each method, not only " + called, called.equals(methods), true);
    }

    private static MatchResult whole(Pattern pattern, String line) {
        var matcher = pattern.matcher(line);
        return matcher.matches() ? matcher.toMatchResult() : null;
    }

    private static Object answerOf(PhaseBook book, String name, String values) throws ReflectiveOperationException {
        Object[] arguments = values.isEmpty() ? new Object[0]
            : Stream.of(values.split(", ")).map(Integer::valueOf).toArray();
        Class<?>[] types = Stream.of(arguments).map(a -> int.class).toArray(Class<?>[]::new);
        return PhaseBook.class.getMethod(name, types).invoke(book, arguments);
    }

    private static Stream<Method> faceMethods() {
        return Stream.of(PhaseBook.class.getDeclaredMethods()).filter(m -> Modifier.isPublic(m.getModifiers()));
    }

    private static void useTellsEachMethod(String use) {
        Set<String> told = found(SIGNATURE, use, m -> m.group(1) + " of " + countOf(m.group(2)));
        Set<String> due = faceMethods().map(m -> m.getName() + " of " + m.getParameterCount())
            .collect(Collectors.toCollection(TreeSet::new));
        Check.due("Use tells each method: " + told, told.equals(due), true);
    }

    private static int countOf(String parameters) {
        return parameters.isEmpty() ? 0 : parameters.split(", ").length;
    }

    private static void useTellsEachConstant(String use) throws ReflectiveOperationException {
        Set<String> told = found(CONSTANT, use, m -> m.group(1) + " is " + m.group(2));
        Set<String> due = new TreeSet<>();
        for (Field field : PhaseBook.class.getFields()) {
            due.add(field.getName() + " is " + field.getInt(null));
        }
        Check.due("Use tells each constant: " + told, told.equals(due), true);
    }

    private static void testsSayHowToRunThem(String tests) throws IOException {
        Check.due("Tests names the script that runs them", tests.contains(".ci/run"), true);
        Check.due("the script is there", Files.isRegularFile(Path.of(".ci/run")), true);
        Set<String> there;
        try (Stream<Path> files = Files.list(Path.of("src/test/java"))) {
            there = files.map(f -> f.getFileName().toString()).filter(f -> f.endsWith("Test.java"))
                .map(f -> f.substring(0, f.length() - ".java".length())).collect(Collectors.toCollection(TreeSet::new));
        }
        Set<String> told = found(TEST, tests, m -> m.group(1));
        Check.due("Tests tells each test: " + told, told.equals(there), true);
    }
}
