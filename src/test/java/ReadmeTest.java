import java.io.File;
import java.io.IOException;
import java.lang.reflect.Field;
import java.lang.reflect.Method;
import java.lang.reflect.Modifier;
import java.net.URL;
import java.net.URLClassLoader;
import java.nio.file.Files;
import java.nio.file.Path;
import java.util.ArrayList;
import java.util.List;
import java.util.Set;
import java.util.TreeSet;
import java.util.regex.Matcher;
import java.util.regex.Pattern;
import java.util.stream.Stream;

/**
 * README.md stands at the root, and what it shows is so. Its Java blocks are made one program, which
 * is compiled and run; what each call of it answers is held against the comment behind the call.
 */
public final class ReadmeTest {
    private static final Path README = Path.of("README.md");
    private static final Path TESTS = Path.of("src/test/java");
    private static final int CALLS_OF_AN_OBJECT = 512;
    /** A call, what it answers, and more words behind a colon as may be. */
    private static final Pattern SHOWN = Pattern.compile("(x\\.(\\w+)\\(.*\\)); +// (-?\\w+)(?:: .+)?");

    /** A call that README.md shows, and what it says that the call answers. */
    private record Shown(String call, String name, String answer) {
    }

    private static final List<Shown> shown = new ArrayList<>();
    private static final StringBuilder program = new StringBuilder();
    private static final StringBuilder words = new StringBuilder();

    public static void main(String[] args) throws Exception {
        boolean isThere = Files.isRegularFile(README);
        Check.isTrue("README.md stands at the project's root", isThere);
        if (isThere) {
            readBlocks();
            callsAnswerAsItSays();
            everyCallIsShown();
            constantsAreAsItSays();
            testsAreAsItSays();
        }
        Check.end();
    }

    private static void readBlocks() throws IOException {
        boolean isBlock = false;
        for (String line : Files.readAllLines(README)) {
            if (line.startsWith("```")) {
                Check.isTrue("a block is of Java: " + line, line.equals(isBlock ? "```" : "```java"));
                isBlock = !isBlock;
            } else if (isBlock) {
                addToProgram(line);
            } else {
                words.append(line).append('\n');
            }
        }
        Check.isTrue("the last block ends", !isBlock);
        for (String name : namesOfCalls()) {
            Check.isTrue("no call of " + name + " is shown outside the blocks", words.indexOf(name + "(") < 0);
        }
    }

    /** A call in a loop stands further right, and says no answer. */
    private static void addToProgram(String line) {
        Matcher matcher = SHOWN.matcher(line);
        if (matcher.matches()) {
            shown.add(new Shown(matcher.group(1), matcher.group(2), matcher.group(3)));
            program.append("answers.add((long) ").append(matcher.group(1)).append(");\n");
        } else {
            Check.isTrue("says what it answers: " + line, !line.startsWith("x."));
            program.append(line).append('\n');
        }
    }

    private static List<?> answersOfProgram() throws Exception {
        Path folder = Files.createTempDirectory("readme");
        Path source = folder.resolve("ReadmeProgram.java");
        Files.writeString(source, "public final class ReadmeProgram {\n"
            + "public static java.util.List<Long> answers() {\n"
            + "java.util.List<Long> answers = new java.util.ArrayList<>();\n"
            + program + "return answers;\n}\n}\n");
        String known = System.getProperty("java.class.path");
        int failed = new ProcessBuilder("javac", "-cp", known, "-d", folder.toString(), source.toString())
            .inheritIO().start().waitFor();
        Check.due("compiling what README.md shows", failed, 0);
        List<?> answers = List.of();
        if (failed == 0) {
            try (URLClassLoader loader = new URLClassLoader(new URL[] {folder.toUri().toURL()})) {
                answers = (List<?>) loader.loadClass("ReadmeProgram").getMethod("answers").invoke(null);
            }
        }
        for (File file : folder.toFile().listFiles()) {
            Files.delete(file.toPath());
        }
        Files.delete(folder);
        return answers;
    }

    private static long numberOf(String answer) throws Exception {
        return answer.matches("-?[0-9]+") ? Long.parseLong(answer) : EchoesFirst.class.getField(answer).getInt(null);
    }

    private static void callsAnswerAsItSays() throws Exception {
        List<?> answers = answersOfProgram();
        Check.due("calls that README.md shows", answers.size(), shown.size());
        for (int k = 0; k < answers.size(); k++) {
            Check.due("README.md: " + shown.get(k).call, (Long) answers.get(k), numberOf(shown.get(k).answer));
        }
        Check.isTrue("one object serves all that is shown", answers.size() < CALLS_OF_AN_OBJECT / 2);
    }

    private static Set<String> namesOfCalls() {
        Set<String> names = new TreeSet<>();
        for (Method method : EchoesFirst.class.getDeclaredMethods()) {
            if (Modifier.isPublic(method.getModifiers())) {
                names.add(method.getName());
            }
        }
        return names;
    }

    private static void everyCallIsShown() {
        Set<String> names = namesOfCalls();
        Check.due("calls of the face", names.size(), 28);
        for (String name : names) {
            Check.isTrue("README.md shows " + name, shown.stream().anyMatch(one -> one.name.equals(name)));
        }
    }

    private static void constantsAreAsItSays() throws IllegalAccessException {
        for (Field field : EchoesFirst.class.getDeclaredFields()) {
            if (Modifier.isPublic(field.getModifiers())) {
                String row = "| `" + field.getName() + "` | " + field.getInt(null) + " |";
                Check.isTrue("README.md has the row " + row, words.indexOf(row) >= 0);
            }
        }
    }

    private static void testsAreAsItSays() throws IOException {
        Set<String> told = new TreeSet<>();
        Matcher row = Pattern.compile("(?m)^\\| `(\\w+Test)` \\|").matcher(words);
        while (row.find()) {
            told.add(row.group(1));
        }
        Set<String> there = new TreeSet<>();
        try (Stream<Path> files = Files.list(TESTS)) {
            files.map(file -> file.getFileName().toString()).filter(name -> name.endsWith("Test.java"))
                .forEach(name -> there.add(name.replace(".java", "")));
        }
        Check.same("the tests that README.md tells", told.toString(), there.toString());
        Matcher command = Pattern.compile("(?m)^    (\\S+)$").matcher(words);
        Check.isTrue("README.md says how to run the tests", command.find());
        Check.isTrue(command.group(1) + " can be run", Files.isExecutable(Path.of(command.group(1))));
    }
}
