import java.io.IOException;
import java.lang.reflect.InvocationTargetException;
import java.lang.reflect.Method;
import java.nio.charset.StandardCharsets;
import java.nio.file.Files;
import java.nio.file.Path;
import java.util.ArrayList;
import java.util.Arrays;
import java.util.List;
import java.util.Set;
import java.util.TreeSet;
import java.util.regex.Matcher;
import java.util.regex.Pattern;
import java.util.stream.Collectors;
import java.util.stream.Stream;

/** What README.md says holds: its example's answers, the command for the tests, the tests it names. */
public final class ReadmeTest {
    private static final Path README = Path.of("README.md");
    private static final Path TESTS = Path.of("src", "test", "java");
    private static final Path SHARED = Path.of("..", "shared", "tests");
    private static final String NEW = "TemperDowns downs = new TemperDowns();";
    private static final Pattern CALL = Pattern.compile("downs\\.(\\w+)\\((.*)\\);\\s+// (\\w+)(:.*)?");
    private static final Pattern TOLD_TEXT = Pattern.compile("//.*\"(.*)\"");

    /** By the script that runs the tests: what it is called, and the files that it runs. */
    private static final String COMMAND = System.getProperty("run.command", "");
    private static final String RUN = System.getProperty("run.tests", "");

    private static List<String> readme() {
        return lines(README);
    }

    private static List<String> lines(Path file) {
        try {
            return Files.readAllLines(file, StandardCharsets.UTF_8);
        } catch (IOException e) {
            throw new AssertionError(e);
        }
    }

    /** The lines between the fences of Java, without empty ones. */
    private static List<String> example() {
        List<String> found = new ArrayList<>();
        boolean inside = false;
        for (String line : readme()) {
            if (line.startsWith("```")) {
                inside = line.equals("```java");
            } else if (inside && !line.isBlank()) {
                found.add(line);
            }
        }
        return found;
    }

    private static Object argument(String told) {
        return told.equals("true") || told.equals("false") ? (Object) Boolean.valueOf(told)
                : (Object) Long.decode(told).intValue();
    }

    private static String answer(TemperDowns downs, String name, String arguments) {
        Object[] args = Stream.of(arguments.split(", *")).filter(s -> !s.isEmpty())
                .map(ReadmeTest::argument).toArray();
        Class<?>[] types = Stream.of(args)
                .map(a -> a instanceof Boolean ? boolean.class : int.class).toArray(Class<?>[]::new);
        try {
            Method method = TemperDowns.class.getMethod(name, types);
            return String.valueOf(method.invoke(downs, args));
        } catch (InvocationTargetException e) {
            return e.getCause().getClass().getSimpleName();
        } catch (NoSuchMethodException | IllegalAccessException e) {
            return "no call: " + e;
        }
    }

    private static void exampleAnswersAsItSays() {
        TemperDowns downs = null;
        int calls = 0;
        for (String line : example()) {
            Matcher call = CALL.matcher(line);
            if (line.equals(NEW)) {
                downs = new TemperDowns();
            } else if (call.matches() && downs != null) {
                String due = call.group(3).equals("NONE") ? String.valueOf(TemperDowns.NONE) : call.group(3);
                String got = answer(downs, call.group(1), call.group(2));
                Due.is(line + " answered " + got + ", as told", got.equals(due), true);
                calls++;
            } else {
                Due.is("a comment, or a call with its answer: " + line, line.startsWith("//"), true);
            }
        }
        Due.is("there are calls to try", calls > 0, true);
    }

    /** A text that a comment tells is what the calls below it feed, blanks behind it left out. */
    private static void exampleFeedsTheTextsThatItTells() {
        String told = "";
        StringBuilder fed = new StringBuilder();
        int texts = 0;
        for (String line : example()) {
            Matcher text = TOLD_TEXT.matcher(line);
            Matcher call = CALL.matcher(line);
            if (text.matches()) {
                told = text.group(1);
            } else if (call.matches() && call.group(1).equals("feed")) {
                fed.append(bytes(call.group(2)));
            } else if (call.matches() && call.group(1).equals("county")) {
                Due.is(told + " is fed, not " + fed, fed.toString().stripTrailing().equals(told), true);
                Due.is("bytes of " + told, told.length(), Long.decode(call.group(2)));
                fed.setLength(0);
                texts++;
            }
        }
        Due.is("there are texts to read", texts > 0, true);
    }

    private static String bytes(String numbers) {
        StringBuilder s = new StringBuilder();
        for (String number : numbers.split(", *")) {
            int four = Long.decode(number).intValue();
            for (int shift = 24; shift >= 0; shift -= 8) {
                s.append((char) (four >>> shift & 255));
            }
        }
        return s.toString();
    }

    /** The first line that is set in, below the heading on tests. */
    private static String commandOfReadme() {
        return readme().stream().dropWhile(line -> !line.equals("## How to run its tests"))
                .filter(line -> line.startsWith("    ")).findFirst().orElse("none").strip();
    }

    private static void commandIsTheOneThatRunsThis() {
        String command = commandOfReadme();
        Due.is(command + " is what runs this test, not '" + COMMAND + "'", command.equals(COMMAND), true);
        Due.is(command + " can be run", Files.isExecutable(Path.of(command)), true);
    }

    private static Set<String> filesBelow(Path directory) {
        try (Stream<Path> files = Files.walk(directory)) {
            return files.map(Path::toString).filter(name -> name.endsWith(".java"))
                    .collect(Collectors.toCollection(TreeSet::new));
        } catch (IOException e) {
            throw new AssertionError(e);
        }
    }

    private static boolean hasMain(String file) {
        return lines(Path.of(file)).stream().anyMatch(line -> line.contains("static void main("));
    }

    private static void commandRunsAllTests() {
        Set<String> due = filesBelow(SHARED);
        Due.is("there are tests under ../shared/tests", due.isEmpty(), false);
        filesBelow(TESTS).stream().filter(ReadmeTest::hasMain).forEach(due::add);
        Set<String> run = new TreeSet<>(Arrays.asList(RUN.split(" +")));
        Due.is("run are " + run + ", of " + due, run.equals(due), true);
    }

    /** Each test is named, those of promises by the first and the last one. */
    private static void testsThatItNamesAreAllThatThereAre() {
        Set<String> named = new TreeSet<>();
        Matcher name = Pattern.compile("`(\\w+Test)`").matcher(String.join("\n", readme()));
        while (name.find()) {
            named.add(name.group(1));
        }
        for (int promise = 1; promise <= 36; promise++) {
            named.add(String.format("Promise%02dTest", promise));
        }
        Set<String> there = filesBelow(TESTS).stream().filter(ReadmeTest::hasMain)
                .map(file -> Path.of(file).getFileName().toString().replace(".java", ""))
                .collect(Collectors.toCollection(TreeSet::new));
        Due.is("named are " + named + ", there are " + there, named.equals(there), true);
    }

    public static void main(String[] args) {
        Due.runAll(ReadmeTest.class);
    }
}
